/-- an array of arrays can be made -/
def va_AOA (ty : FieldType) (U : State) : Prop := (Cond.arrayOver (.array ty)).before #[] U = true
theorem va_AOA.of {ty : FieldType} {A : Array Value} {U : State} (h : (Cond.arrayOver (.array ty)).before A U = true) : va_AOA ty U := h
theorem va_AOA.use {ty : FieldType} {A : Array Value} {U : State} (h : va_AOA ty U) : (Cond.arrayOver (.array ty)).before A U = true := h
theorem va_AOA.moved {ty : FieldType} {u U : State} (hvm : u.vm.Alike U.vm) (h : va_AOA ty u) : va_AOA ty U := by
  obtain ⟨comp, c, k, h1, h2, h3, h4, h5⟩ := arrayOverA_spec h
  obtain ⟨k', hk', he⟩ := hvm.2.2 _ _ h3
  have hb : U.vm.bare = u.vm.bare := by first | exact hvm.bare_eq | exact hvm.bare_eq.symm
  have e1 := va_idx_bare U.vm comp
  rw [hb] at e1
  have hi := e1.symm.trans ((va_idx_bare u.vm comp).trans h2)
  have hkind : k'.kind = .array comp (.array ty) := by rw [he]; exact h4
  have f1 : U.vm.findClass (FieldType.array ty).toString = some comp := by rw [hvm.findClass]; exact h1
  have f2 : U.vm.findClass ("[" ++ (FieldType.array ty).toString) = some c := by rw [hvm.findClass]; exact h5
  unfold va_AOA Cond.before Cond.holds
  simp only [Cond.value]
  rw [f1, Option.bind_some]
  refine (congrArg (fun o : Option Nat => (o.bind (fun c => (U.vm.classes[c]?).map fun (k : Class) => match k.kind with | .array _ t => decide (t = FieldType.array ty) && decide (U.vm.findClass ("[" ++ (FieldType.array ty).toString) = some c) | _ => false) == some true)) hi).trans ?_
  simp [hk', hkind, f2]
/-! ===== BEGIN new T[n][m]: the outer array a place, the inner ones among the pooled ===== -/
/-- f, but v at every address of l -/
def vr_up {α : Type} (f : Nat → α) (l : List Nat) (v : α) : Nat → α := fun a => if a ∈ l then v else f a
theorem vr_up_in {α : Type} {f : Nat → α} {l : List Nat} {v : α} {a : Nat} (h : a ∈ l) : vr_up f l v a = v := if_pos h
theorem vr_up_ne {α : Type} {f : Nat → α} {l : List Nat} {v : α} {a : Nat} (h : a ∉ l) : vr_up f l v a = f a := if_neg h
theorem vr_rows {L l : List Nat} {f : Nat → va_E} {e : va_E} (h : ∀ a, a ∈ l → a ∉ L) : va_pl L f ++ l.map (fun a => (a, e)) = va_pl (L ++ l) (vr_up f l e) := by
  unfold va_pl
  rw [List.map_append]
  congr 1
  · apply List.map_congr_left
    intro a ha
    rw [vr_up_ne (fun q => h a q ha)]
  · apply List.map_congr_left
    intro a ha
    rw [vr_up_in ha]
theorem vr_lay {X rows : va_W} {x : Nat × va_E} {pl : va_W} {D : va_G} {cl : List vw_C} {H : Heap} (hP : va_P D cl (((X ++ pl) ++ [x]) ++ rows) H) : va_P D cl ((X ++ [x]) ++ (pl ++ rows)) H := by
  rw [List.append_assoc (X ++ pl)] at hP
  have h := va_P.swap hP
  rw [← List.append_assoc X] at h
  have h2 := va_P.swap h
  rw [List.append_assoc (X ++ [x])] at h2
  exact h2
theorem vr_layD {X rows : va_W} {x : Nat × va_E} {pl : va_W} {A : Nat → Prop} (hD : va_D A (((X ++ pl) ++ [x]) ++ rows)) : va_D A ((X ++ [x]) ++ (pl ++ rows)) := by
  rw [List.append_assoc (X ++ pl)] at hD
  have h := va_D.swap hD
  rw [← List.append_assoc X] at h
  have h2 := va_D.swap h
  rw [List.append_assoc (X ++ [x])] at h2
  exact h2
theorem vr_outer (c : ClassId) (N h0 : Nat) : ∀ i : Nat, Jvm.Free.Multi.outerC c N h0 i = arrV c N (fun j => va_rf (if j < i then some (h0 + 1 + j) else none))
  | 0 => by
    show ({ cls := c, slots := Array.replicate N .null, vm := .none } : Cell) = _
    rw [arrV_new]
    refine congrArg (arrV c N) (funext fun j => ?_)
    simp [va_rf]
  | i + 1 => by
    show (Jvm.Free.Multi.outerC c N h0 i).setSlot i (.ref (h0 + 1 + i)) = _
    rw [vr_outer c N h0 i, arrV_store]
    refine congrArg (arrV c N) (funext fun j => ?_)
    by_cases e : j = i
    · subst e
      simp [updV, va_rf]
    · by_cases h : j < i
      · simp [updV, e, h, Nat.lt_succ_of_lt h]
      · simp [updV, e, h, show ¬ j < i + 1 by omega]
section VGM
variable {p : Program} {l : Launch} {e : Env} {R : Room} {s : State} {m : MethodId} {args : Array Value} {below : List Frame} {meth : Method} {c : Code} {H : Heap} {locs : List Loc} {cells slots : Nat} {Q : State → Prop}
variable {cc : ByteArray} {pc : Nat} {ls : Array Slot} {rest : List Value} {D : va_G} {cl : List vw_C} {A : Nat → Prop} {a : Nat} {tys : List (ClassId × FieldType)} {ws : va_W} {H0 : Heap}
theorem va_mna {X : va_W} {L : List Nat} {f : Nat → va_E} {cc : ByteArray} (hexec : p.tables.exec = Jvm.exec) (hb : c.code = cc) {own : String} {index : Nat} {ty : FieldType} {cy : ClassId} (hown : s.vm.findClass own = some m.cls) (hclink : (Cond.classLink own index ("[" ++ (FieldType.array ty).toString)).before args s = true) (hover : va_AOA ty s) (harr : (Cond.arrayClass ty).before args s = true) (hcy : s.vm.findClass (FieldType.array ty).toString = some cy)
    (hK : va_K D cl tys s) (hP : va_P D cl (X ++ va_pl L f) H) (hD : va_D A (X ++ va_pl L f)) (hS : va_S A H0 H locs) (hA : ∀ q, H0.size ≤ q → A q) {n k : Int32} {N' K' : Nat} {z : vp_A} (hn : ¬ n < 0) (hk : ¬ k < 0) (hN : n.toNatClampNeg = N') (hM : k.toNatClampNeg = K')
    (hb1 : N' * 4 ≤ 536870912) (hb2 : K' * componentBytes ty ≤ 536870912) (hb3 : K' ≤ 536870912) (hdf : fits ty (defaultValue ty) = true) (hdd : (defaultValue ty).isDefault = true) (hcells : cells + (1 + N') ≤ R.cells) (hslots : slots + (N' + N' * K') ≤ R.slots) (hz : ∀ c : ClassId, Jvm.Free.Multi.innerC c K' (defaultValue ty) = vp_cell c z) (hdg : decode cc pc = .ok (.multianewarray index 2, 4))
    (kk : ∀ (q : Nat) (r : Nat → Nat) (cA : ClassId) (H1 : Heap), (∀ i j : Nat, i < N' → j < N' → r i = r j → i = j) → (∀ i : Nat, i < N' → r i ∉ L) → va_K D cl (tys ++ [(cA, .array ty)]) s →
      va_P D cl ((X ++ [(q, .inl (cA, N', .inr (.inr (.inr (.inr (fun i => if i < N' then some (r i) else none))))))]) ++ va_pl (L ++ (List.range N').map r) (vr_up f ((List.range N').map r) (.inl (cy, z)))) H1 → va_D A ((X ++ [(q, .inl (cA, N', .inr (.inr (.inr (.inr (fun i => if i < N' then some (r i) else none))))))]) ++ va_pl (L ++ (List.range N').map r) (vr_up f ((List.range N').map r) (.inl (cy, z)))) → va_S A H0 H1 locs →
      W p l e R s m args below meth c H1 locs (cells + 1 + N') (slots + N' + N' * K') Q (F0 m (pc + 4) ls (.ref q :: rest))) : W p l e R s m args below meth c H locs cells slots Q (F0 m pc ls (.int k :: .int n :: rest)) := by
  subst hN
  subst hM
  intro T hT Xs
  obtain ⟨vm₁, cA, comp, -, fA, fC, hO, -, X', step⟩ := Xs.multianewarray2F hexec hown hclink (va_AOA.use hover) harr (g := F0 m pc ls (.int k :: .int n :: rest)) rfl (by rw [hb]; exact hdg) rfl hn hk hb1 hb2 hb3 hdf hdd hcells hslots
  have ec : some cy = some comp := hcy.symm.trans fC
  cases ec
  generalize hF : Jvm.Free.Multi.fill (T.setVm vm₁) cA cy n.toNatClampNeg k.toNatClampNeg (defaultValue ty) n.toNatClampNeg = F at X' step
  have hTh : (T.setVm vm₁).heap = H := hT
  obtain ⟨f1, f2, -, -⟩ := Jvm.Free.Multi.fill_facts (T.setVm vm₁) cA cy n.toNatClampNeg k.toNatClampNeg (defaultValue ty) n.toNatClampNeg
  rw [hF, hTh] at f1 f2
  have hold : ∀ x : Nat, x < H.size → F.heap[x]? = H[x]? := fun x hx => by
    have := Jvm.Free.Multi.fill_old (T.setVm vm₁) cA cy n.toNatClampNeg k.toNatClampNeg (defaultValue ty) (a := x) (by rw [hTh]; exact hx) n.toNatClampNeg
    rw [hF, hTh] at this
    exact this
  have hrow : ∀ j : Nat, j < n.toNatClampNeg → F.heap[H.size + 1 + j]? = some (vp_cell cy z) := fun j hj => by
    have := Jvm.Free.Multi.fill_inner (T.setVm vm₁) cA cy n.toNatClampNeg k.toNatClampNeg (defaultValue ty) n.toNatClampNeg j hj
    rw [hF, hTh, hz] at this
    exact this
  have hout : Jvm.Free.Multi.outerC cA n.toNatClampNeg H.size n.toNatClampNeg = vp_cell cA (n.toNatClampNeg, .inr (.inr (.inr (.inr (fun i => if i < n.toNatClampNeg then some (H.size + 1 + i) else none))))) := by
    rw [vp_cell_q]
    exact vr_outer cA n.toNatClampNeg H.size n.toNatClampNeg
  rw [hout] at f2
  have hlt : ∀ a, a ∈ L → a < H.size := fun a ha => by
    obtain ⟨k9, hk9⟩ := va_pl_get (X := X) (f := f) ha
    exact (hP k9 _ hk9).lt
  have hnl : ∀ i : Nat, i < n.toNatClampNeg → H.size + 1 + i ∉ L := fun i _ h => by
    have := hlt _ h
    omega
  have hnm : ∀ a, a ∈ (List.range n.toNatClampNeg).map (fun i => H.size + 1 + i) → a ∉ L := fun a ha h => by
    obtain ⟨i, -, rfl⟩ := List.mem_map.mp ha
    have := hlt _ h
    omega
  have hP0 : va_P D cl (X ++ va_pl L f) F.heap := hP.kept (fun k9 x hx => hold x.1 ((hP k9 x hx).lt))
  have hP1 : va_P D cl ((X ++ va_pl L f) ++ [(H.size, .inl (cA, n.toNatClampNeg, .inr (.inr (.inr (.inr (fun i => if i < n.toNatClampNeg then some (H.size + 1 + i) else none))))))]) F.heap := hP0.app (fun k9 x hx => by
    have h0 : k9 < 1 := (List.getElem?_eq_some_iff.mp hx).1
    rw [show k9 = 0 by omega] at hx
    cases hx
    exact f2)
  have hP2 : va_P D cl (((X ++ va_pl L f) ++ [(H.size, .inl (cA, n.toNatClampNeg, .inr (.inr (.inr (.inr (fun i => if i < n.toNatClampNeg then some (H.size + 1 + i) else none))))))]) ++ ((List.range n.toNatClampNeg).map (fun i => H.size + 1 + i)).map (fun a => (a, .inl (cy, z)))) F.heap := hP1.app (fun k9 x hx => by
    obtain ⟨a, ha, rfl⟩ := List.mem_map.mp (List.mem_of_getElem? hx)
    obtain ⟨i, hi, rfl⟩ := List.mem_map.mp ha
    exact hrow i (List.mem_range.mp hi))
  have hD2 : va_D A (((X ++ va_pl L f) ++ [(H.size, .inl (cA, n.toNatClampNeg, .inr (.inr (.inr (.inr (fun i => if i < n.toNatClampNeg then some (H.size + 1 + i) else none))))))]) ++ ((List.range n.toNatClampNeg).map (fun i => H.size + 1 + i)).map (fun a => (a, .inl (cy, z)))) := by
    have hD1 := hD.push (e := .inl (cA, n.toNatClampNeg, .inr (.inr (.inr (.inr (fun i => if i < n.toNatClampNeg then some (H.size + 1 + i) else none)))))) hP rfl (hA _ hS.1)
    generalize hW1 : (X ++ va_pl L f) ++ [(H.size, .inl (cA, n.toNatClampNeg, .inr (.inr (.inr (.inr (fun i => if i < n.toNatClampNeg then some (H.size + 1 + i) else none))))))] = W1 at hD1 hP1 ⊢
    have hle : ∀ (k9 : Nat) (x : Nat × va_E), W1[k9]? = some x → x.1 ≤ H.size := fun k9 x hx => by
      rw [← hW1] at hx
      by_cases hl : k9 < (X ++ va_pl L f).length
      · rw [List.getElem?_append_left hl] at hx
        exact Nat.le_of_lt ((hP k9 x hx).lt)
      · rw [List.getElem?_append_right (by omega)] at hx
        have h0 : k9 - (X ++ va_pl L f).length < 1 := (List.getElem?_eq_some_iff.mp hx).1
        rw [show k9 - (X ++ va_pl L f).length = 0 by omega] at hx
        cases hx
        exact Nat.le_refl _
    have hr : ∀ (k9 : Nat) (x : Nat × va_E), (((List.range n.toNatClampNeg).map (fun i => H.size + 1 + i)).map (fun a => ((a, .inl (cy, z)) : Nat × va_E)))[k9]? = some x → x.1 = H.size + 1 + k9 := fun k9 x hx => by
      rw [List.getElem?_map, List.getElem?_map] at hx
      by_cases h9 : k9 < n.toNatClampNeg
      · rw [List.getElem?_range h9] at hx
        cases hx
        rfl
      · have hn0 : (List.range n.toNatClampNeg)[k9]? = none := List.getElem?_eq_none (by rw [List.length_range]; omega)
        rw [hn0] at hx
        cases hx
    refine ⟨fun i j x y hi hj hxy => ?_, fun k9 x hx => ?_⟩
    · by_cases h1 : i < W1.length <;> by_cases h2 : j < W1.length
      · rw [List.getElem?_append_left h1] at hi
        rw [List.getElem?_append_left h2] at hj
        exact hD1.1 i j x y hi hj hxy
      · rw [List.getElem?_append_left h1] at hi
        rw [List.getElem?_append_right (by omega)] at hj
        have := hle _ _ hi
        have := hr _ _ hj
        omega
      · rw [List.getElem?_append_right (by omega)] at hi
        rw [List.getElem?_append_left h2] at hj
        have := hle _ _ hj
        have := hr _ _ hi
        omega
      · rw [List.getElem?_append_right (by omega)] at hi hj
        have := hr _ _ hi
        have := hr _ _ hj
        omega
    · by_cases h1 : k9 < W1.length
      · rw [List.getElem?_append_left h1] at hx
        exact hD1.2 k9 x hx
      · rw [List.getElem?_append_right (by omega)] at hx
        have := hr _ _ hx
        exact hA _ (by have := hS.1; omega)
  have hAr : ArrOfT s cA (.array ty) := fun N9 z9 => by
    obtain ⟨-, k9, hk9, cm9, hkk9⟩ := (hO 0 0 0).1
    exact ⟨(fun q hq => by cases hq), k9, hk9, cm9, hkk9⟩
  have hK2 : va_K D cl (tys ++ [(cA, .array ty)]) s := ⟨hK.1, fun k9 x hx => by
    by_cases hl : k9 < tys.length
    · rw [List.getElem?_append_left hl] at hx
      exact hK.2 k9 x hx
    · rw [List.getElem?_append_right (by omega)] at hx
      have h0 : k9 - tys.length < 1 := (List.getElem?_eq_some_iff.mp hx).1
      rw [show k9 - tys.length = 0 by omega] at hx
      cases hx
      exact ⟨hAr, fA⟩⟩
  obtain ⟨t, a1, b1⟩ := kk H.size (fun i => H.size + 1 + i) cA F.heap (fun i j _ _ h => by have h9 : H.size + 1 + i = H.size + 1 + j := h; omega) hnl hK2 (by rw [← vr_rows hnm]; exact vr_lay hP2) (by rw [← vr_rows hnm]; exact vr_layD hD2) ⟨by rw [f1]; have := hS.1; omega, fun x h1 h2 => (hold x (Nat.lt_of_lt_of_le h1 hS.1)).trans (hS.2.1 x h1 h2), hS.2.2⟩ F rfl X'
  refine ⟨t, step t ?_, b1⟩
  have e : T.heap.size = H.size := by rw [hT]
  rw [e]
  exact a1
end VGM

theorem bb_rows8 {f : Nat → va_E} {l : List Nat} {e : va_E} : va_pl l (vr_up f l e) = l.map (fun a => (a, e)) := by
  unfold va_pl
  exact List.map_congr_left (fun a ha => by rw [vr_up_in ha])
/-! ===== making cells ===== -/
abbrev bb_X.kn (X : bb_X) (k n : Nat) : bb_X := (X.p, X.l, X.e, X.R, X.s, X.m, X.args, X.below, X.meth, X.c, X.A, X.D, X.cs, X.Q, k, n)
theorem bb_C.kn {X : bb_X} {own : String} {cc : ByteArray} {nL k n : Nat} (C : bb_C X own cc nL) (hk : k ≤ X.R.cells) (hn : n ≤ X.R.slots) : bb_C (X.kn k n) own cc nL := ⟨C.1, C.2.1, C.2.2.1, C.2.2.2.1, C.2.2.2.2.1, C.2.2.2.2.2.1, C.2.2.2.2.2.2.1, C.2.2.2.2.2.2.2.1, hk, hn⟩
theorem bb_Z.w {X : bb_X} {nL pc : Nat} {w w' : va_W} {lv : List (Nat × Value)} {st : List Value} (h : w = w') (k : bb_Z X nL w' pc lv st) : bb_Z X nL w pc lv st := h ▸ k
theorem bb_Z.perm {X : bb_X} {nL pc : Nat} {w w' : va_W} {lv : List (Nat × Value)} {st : List Value} (h : List.Perm w w') (k : bb_Z X nL w' pc lv st) : bb_Z X nL w pc lv st := fun H locs ls hP hD hS hl => k H locs ls (bb_P_perm h hP) (bb_D_perm h hD) hS hl
/-- what the constructors take as given beside the good words -/
def bb_E (U : State) : Prop := va_Nw (.methodLinkNest "BlindBuff" 9 yX0_init "BlindBuff") U ∧ va_Nw (.methodLinkNest "BlindBuff" 18 yX1_init "BlindBuff") U ∧ va_Nw (.methodLinkNest "BlindBuff" 34 yX3_init "BlindBuff") U ∧ va_Nw (.methodLinkNest "BlindBuff" 45 yX2_init "BlindBuff") U ∧ va_AO "BlindBuff$Row" U ∧ va_AOA .int U
theorem bb_E.warm {s U : State} (h : bb_E s) (hW : s.WarmedH U.vm) : bb_E U := ⟨va_Nw.warmM hW h.1, va_Nw.warmM hW h.2.1, va_Nw.warmM hW h.2.2.1, va_Nw.warmM hW h.2.2.2.1, h.2.2.2.2.1.moved hW.alike, h.2.2.2.2.2.moved hW.alike⟩
theorem bb_E.calling {U : State} {g : JFrame} {mk : MethodId} {av : Array Value} (h : bb_E U) : bb_E (U.calling g mk av) := ⟨va_Nw.same rfl rfl h.1, va_Nw.same rfl rfl h.2.1, va_Nw.same rfl rfl h.2.2.1, va_Nw.same rfl rfl h.2.2.2.1, h.2.2.2.2.1.moved (Vm.Alike.refl U.vm), h.2.2.2.2.2.moved (Vm.Alike.refl U.vm)⟩
def bb_PI (D : va_G) (cs : Nat → ClassId) (ws : va_W) (sz : Nat) (av : List Value) : Array Value → State → Prop := fun v U => bb_P D cs ws sz av v U ∧ bb_E U
def bb_QI (D : va_G) (cs : Nat → ClassId) (post : va_W → Prop) (ws : va_W) (sz : Nat) : Array Value → State → Outcome → State → Prop := fun _ st oc t => oc = .returned none ∧ (∃ ws', post ws' ∧ va_P D bb_CL ws' t.heap ∧ va_D (va_A ws sz) ws') ∧ va_F (va_A ws sz) st t
def bb_MI (l : Launch) (y : MethodName) (code : ByteArray) (maxL d mc ms : Nat) (D : va_G) (cs : Nat → ClassId) (av : List Value) (post : va_W → Prop) (ws : va_W) : Prop :=
  ∀ sz, Met l y (.code y code maxL none :: bb_tb) { frames := d, cells := mc, slots := ms, locals := 40 * d } (bb_PI D cs ws sz av) (bb_QI D cs post ws sz) mc ms (va_A ws sz)
theorem bb_blindI {D : va_G} {cs : Nat → ClassId} {ws : va_W} {sz : Nat} {av : List Value} : FrameBlind (bb_PI D cs ws sz av) := fun x U g mk q => ⟨bb_blind x U g mk q.1, q.2.calling⟩
def bb_RI (X : bb_X) (mc ms : Nat) (post : va_W → Prop) : Prop := ∃ (ws0 : va_W) (sz : Nat), X.A = va_A ws0 sz ∧ X.Q = MQ X.below (bb_QI X.D X.cs post ws0 sz) X.args X.s mc ms (va_A ws0 sz)
theorem bb_mgI {l : Launch} {y : MethodName} {code : ByteArray} {maxL d mc ms : Nat} {D : va_G} {cs : Nat → ClassId} {av : List Value} {post : va_W → Prop} {ws : va_W} {own : String} {lv : List (Nat × Value)} (hy : plainName y.cls = true) (hown : y.cls = own) (hyn : y.name = "<init>") (hlen : (lg_sl av).length ≤ maxL) (hlv : lv_args 0 av = lv)
    (body : ∀ X : bb_X, X.l = l → X.D = D → X.cs = cs → X.R = { frames := d, cells := mc, slots := ms, locals := 40 * d } → bb_C (X.kn 0 0) own code maxL → bb_r X d → X.meth.sig.returnType = none → X.meth.name = "<init>" → bb_E X.s → bb_RI X mc ms post → bb_Z (X.kn 0 0) maxL ws 0 lv []) : bb_MI l y code maxL d mc ms D cs av post ws := by
  intro sz
  refine Met.ofW (cc := code) (maxL := maxL) (ret := none) hy rfl ?_
  intro p e s m args below meth c s₁ B hml hv
  obtain ⟨⟨rfl, hsz, hP, hK, hD0⟩, hE⟩ := hv
  subst hsz
  have hts := atoms_spec (ws := .code y code maxL none :: bb_tb) B.pre
  have hownF : s.vm.findClass own = some m.cls := by rw [← hown]; exact findClass_of_methodNamed B.named
  have hnm : meth.name = "<init>" := by rw [(name_of_methodNamed B.named B.method).1]; exact hyn
  have hl := lv_entry av (n := maxL) hlen
  rw [hlv] at hl
  rw [lg_entry_eq]
  generalize (lg_sl av ++ List.replicate (maxL - (lg_sl av).length) Slot.unset).toArray = ls at hl ⊢
  exact body (p, l, e, { frames := d, cells := mc, slots := ms, locals := 40 * d }, s, m, av.toArray, below, meth, c, va_A ws s.heap.size, D, cs, MQ below (bb_QI D cs post ws s.heap.size) av.toArray s mc ms (va_A ws s.heap.size), 0, 0) rfl rfl rfl rfl ⟨B.exec, B.bytes, hml, hownF, fun w hw => hts w (List.mem_cons_of_mem _ hw), hK, B.notSynchronized, fun q hq => Or.inr hq, Nat.zero_le _, Nat.zero_le _⟩ ⟨Nat.le_refl _, Nat.le_refl _⟩ B.returns hnm hE ⟨ws, s.heap.size, rfl, rfl⟩ s.heap [] ls hP (hD0.self (sz := s.heap.size)) va_S.rf hl
section ZI
variable {X : bb_X} {own : String} {cc : ByteArray} {nL : Nat} {ws : va_W} {pc : Nat} {lv : List (Nat × Value)} {rest : List Value}
theorem z_vretI (C : bb_C X own cc nL) {mc ms : Nat} {post : va_W → Prop} (hr : X.meth.sig.returnType = none) (h : bb_RI X mc ms post) (hk : X.k ≤ mc) (hn : X.n ≤ ms) (hp : post ws) (hd : decode cc pc = .ok (.return_, 1)) : bb_Z X nL ws pc lv [] := by
  obtain ⟨ws0, sz, hA, hQ⟩ := h
  intro H locs ls hP hD hS hl
  refine W.widen hk hn ?_
  rw [hQ]
  rw [hA] at hD hS
  exact W.vret C.1 C.2.1 hr (fun t ht hW => ⟨rfl, ⟨ws, hp, by rw [ht]; exact hP, hD⟩, hS.F ht⟩) hS.2.2 hd C.2.2.2.2.2.2.1
theorem z_obj (C : bb_C X own cc nL) (hR : bb_r X 1) {a idx : Nat} (hl : Cond.methodLink own idx objectInit ∈ bb_tb) (h1 : Cond.instanceMethod objectInit ∈ bb_tb) (h2 : Cond.code objectInit ⟨#[0xb1]⟩ 1 none ∈ bb_tb) (hcat : (rest.map fun v => v.category).sum ≤ 8) (hd : decode cc pc = .ok (.invokespecial idx, 3)) (k : bb_Z X nL ws (pc + 3) lv rest) : bb_Z X nL ws pc lv (.ref a :: rest) := by
  intro H locs ls hP hD hS hl9
  have hr8 := hR.2
  exact W.objInit C.1 C.2.1 C.2.2.2.1 (C.2.2.2.2.1 _ hl) (C.2.2.2.2.1 _ h1) (C.2.2.2.2.1 _ h2) rfl (by rw [C.2.2.1]; exact hl9.1) rfl hd hR.1 (by show 2 * 0 + _ + 12 ≤ _; omega) (k H locs ls hP hD hS hl9)
theorem z_putF (C : bb_C X own cc nL) (hnm : X.meth.name = "<init>") {T : u_T} {N ci index a : Nat} {fs : List Value} {v : Value} {ws' : va_W} {ty0 : Nat → FieldType} {ty : FieldType} (hin : ∀ w ∈ u_ws own T N, w ∈ bb_tb) (hty : ∀ k, k < N → parseFieldDescriptor (T k).2.2.1 = some (ty0 k)) (hn9 : ∀ a, a < N → ∀ b, b < N → a ≠ b → (T a).2.1 ≠ (T b).2.1) (hc : bb_CL[ci]? = some (own, T, N)) (q0 j : Nat) (hj : j < N) (hT : (T j).1 = own) (hl : Cond.fieldLink own index own (T j).2.1 (T j).2.2.1 ∈ bb_tb) (hfin : (T j).2.2.2 = true) (ht : ty0 j = ty) (hn : narrow ty v = v) (hfit : fits ty v = true) (he : ws[q0]? = some (a, .inr (ci, fs))) (hlen : j < fs.length) (hw : ws.set q0 (a, .inr (ci, fs.set j v)) = ws') (hd : decode cc pc = .ok (.putfield index, 3)) (k : bb_Z X nL ws' (pc + 3) lv rest) : bb_Z X nL ws pc lv (v :: .ref a :: rest) := by
  subst hw
  subst ht
  exact fun H locs ls hP hD hS hl9 => va_putF C.1 C.2.1 C.2.2.2.2.1 hin ty0 hty hn9 C.2.2.2.1 C.2.2.2.2.2.1 hP hD hS q0 he hc j hj (C.2.2.2.2.1 _ hl) (fun _ h9 => by rw [hT] at h9; exact h9) hfin hnm hT (hty j hj) hn hfit hlen hd (fun H1 locs1 hP1 hD1 hS1 => k H1 locs1 ls hP1 hD1 hS1 hl9)
theorem z_newa (C : bb_C X own cc nL) {atype : ArrayType} {ty : FieldType} {cA : ClassId} {N : Nat} {a0 : vp_A} {n : Int32} (t0 : Nat) (hty : newarray.typeOf atype = ty) (harr : Cond.arrayClass ty ∈ bb_tb) (ht : (bb_ty X.cs)[t0]? = some (cA, ty)) (hra : ∀ c, va_RA X.s c ty → X.s.vm.findClass ("[" ++ ty.toString) = some c) (ha : ∀ c : ClassId, vp_cell c a0 = arrV c N (fun _ => defaultValue ty)) (hn : ¬ n < 0) (hN : n.toNatClampNeg = N) (hb : N * componentBytes ty ≤ 536870912) (hk : X.k + 1 ≤ X.R.cells) (hs : X.n + N ≤ X.R.slots) (hd : decode cc pc = .ok (.newarray atype, 2)) (k : ∀ q : Nat, bb_Z (X.kn (X.k + 1) (X.n + N)) nL (ws ++ [(q, .inl (cA, a0))]) (pc + 2) lv (.ref q :: rest)) : bb_Z X nL ws pc lv (.int n :: rest) := by
  intro H locs ls hP hD hS hl
  refine va_newa C.1 C.2.1 (by rw [hty]; exact C.2.2.2.2.1 _ harr) hty C.2.2.2.2.2.1 hP hD hS C.2.2.2.2.2.2.2.1 ha hn hN hb hk hs hd (fun q c2 H1 hK1 hP1 hD1 hS1 => ?_)
  have e1 := hra _ (C.2.2.2.2.2.1.2 t0 _ ht).2
  have e2 := hra _ (hK1.2 5 (c2, ty) rfl).2
  have e3 : c2 = cA := Option.some.inj (e2.symm.trans e1)
  subst e3
  exact k q H1 locs ls hP1 hD1 hS1 hl
theorem z_newq (C : bb_C X own cc nL) {N index : Nat} {n : Int32} (hcl : Cond.classLink own index "BlindBuff$Row" ∈ bb_tb) (hov : va_AO "BlindBuff$Row" X.s) (hn : ¬ n < 0) (hN : n.toNatClampNeg = N) (hb : N * 4 ≤ 536870912) (hk : X.k + 1 ≤ X.R.cells) (hs : X.n + N ≤ X.R.slots) (hd : decode cc pc = .ok (.anewarray index, 3)) (k : ∀ q : Nat, bb_Z (X.kn (X.k + 1) (X.n + N)) nL (ws ++ [(q, .inl (X.cs 4, N, .inr (.inr (.inr (.inr (fun _ => none))))))]) (pc + 3) lv (.ref q :: rest)) : bb_Z X nL ws pc lv (.int n :: rest) := by
  intro H locs ls hP hD hS hl
  refine va_newq C.1 C.2.1 C.2.2.2.1 (C.2.2.2.2.1 _ hcl) hov C.2.2.2.2.2.1 hP hD hS C.2.2.2.2.2.2.2.1 hn hN hb hk hs hd (fun q c2 H1 hK1 hP1 hD1 hS1 => ?_)
  obtain ⟨_, _, _, _, _, e1⟩ := (C.2.2.2.2.2.1.2 4 (X.cs 4, .object "BlindBuff$Row") rfl).2
  obtain ⟨_, _, _, _, _, e2⟩ := (hK1.2 5 (c2, .object "BlindBuff$Row") rfl).2
  have e3 : c2 = X.cs 4 := Option.some.inj (e2.symm.trans e1)
  subst e3
  exact k q H1 locs ls hP1 hD1 hS1 hl
theorem z_new (C : bb_C X own cc nL) {Cn : String} {T : u_T} {N ci index : Nat} {fs : List Value} (hin : ∀ w ∈ u_ws Cn T N, w ∈ bb_tb) (ty : Nat → FieldType) (hty : ∀ k, k < N → parseFieldDescriptor (T k).2.2.1 = some (ty k)) (hcl : Cond.classLink own index Cn ∈ bb_tb) (hi : Cond.instantiable Cn N ∈ bb_tb) (hini : Cond.initialized Cn ∈ bb_tb) (hc : bb_CL[ci]? = some (Cn, T, N)) (hfs : ∀ j, j < N → defaultValue (ty j) = vp_V fs j) (hk : X.k + 1 ≤ X.R.cells) (hs : X.n + N ≤ X.R.slots) (hd : decode cc pc = .ok (.new index, 3)) (k : ∀ q : Nat, bb_Z (X.kn (X.k + 1) (X.n + N)) nL (ws ++ [(q, .inr (ci, fs))]) (pc + 3) lv (.ref q :: rest)) : bb_Z X nL ws pc lv rest := by
  intro H locs ls hP hD hS hl
  exact va_new C.1 C.2.1 C.2.2.2.2.1 hin ty hty C.2.2.2.1 (C.2.2.2.2.1 _ hcl) (C.2.2.2.2.1 _ hi) (C.2.2.2.2.1 _ hini) C.2.2.2.2.2.1 hP hD hS C.2.2.2.2.2.2.2.1 hc hfs hk hs hd (fun q H1 hP1 hD1 hS1 => k q H1 locs ls hP1 hD1 hS1 hl)
theorem z_aast (C : bb_C X own cc nL) {a N v ci : Nat} {cA : ClassId} {r : vw_C} {vs : List Value} {f : Nat → Option Nat} {i : Int32} {ws' : va_W} (q0 t0 qk j : Nat) (ha : ws[q0]? = some (a, .inl (cA, N, .inr (.inr (.inr (.inr f)))))) (ht : (bb_ty X.cs)[t0]? = some (cA, .object r.1)) (hv : ws[qk]? = some (v, .inr (ci, vs))) (hc : bb_CL[ci]? = some r) (hin : vp_in i N) (hj : i.toNatClampNeg = j) (hw : ws.set q0 (a, .inl (cA, N, .inr (.inr (.inr (.inr (va_up f j (some v))))))) = ws') (hd : decode cc pc = .ok (.aastore, 1)) (k : bb_Z X nL ws' (pc + 1) lv rest) : bb_Z X nL ws pc lv (.ref v :: .int i :: .ref a :: rest) := by
  subst hj
  subst hw
  exact fun H locs ls hP hD hS hl => va_astq C.1 C.2.1 C.2.2.2.2.2.1 hP hD hS q0 t0 qk ci ha ht hv hc hin hd (fun H1 locs1 hP1 hD1 hS1 => k H1 locs1 ls hP1 hD1 hS1 hl)
theorem z_mna (C : bb_C X RX1 cc nL) (hcl : Cond.classLink RX1 11 "[[I" ∈ bb_tb) (harr : Cond.arrayClass .int ∈ bb_tb) (hov : va_AOA .int X.s) (hk : X.k + 9 ≤ X.R.cells) (hs : X.n + 104 ≤ X.R.slots) (hd : decode cc pc = .ok (.multianewarray 11 2, 4)) (k : ∀ (q : Nat) (r : Nat → Nat), bb_Z (X.kn (X.k + 1 + 8) (X.n + 8 + 8 * 12)) nL ((ws ++ [(q, .inl (X.cs 3, 8, .inr (.inr (.inr (.inr (fun i => if i < 8 then some (r i) else none))))))]) ++ ((List.range 8).map r).map (fun a => (a, .inl (X.cs 0, 12, .inl (fun _ => 0))))) (pc + 4) lv (.ref q :: rest)) : bb_Z X nL ws pc lv (.int 12 :: .int 8 :: rest) := by
  intro H locs ls hP hD hS hl
  have hP0 : va_P X.D bb_CL (ws ++ va_pl [] (fun _ => .inr (0, []))) H := by
    show va_P X.D bb_CL (ws ++ []) H
    rw [List.append_nil]
    exact hP
  have hD0 : va_D X.A (ws ++ va_pl [] (fun _ => .inr (0, []))) := by
    show va_D X.A (ws ++ [])
    rw [List.append_nil]
    exact hD
  have hcy : X.s.vm.findClass (FieldType.array .int).toString = some (X.cs 0) := (C.2.2.2.2.2.1.2 0 (X.cs 0, .int) rfl).2
  refine va_mna (ty := .int) (cy := X.cs 0) (N' := 8) (K' := 12) (z := (12, .inl (fun _ => 0))) (L := []) C.1 C.2.1 C.2.2.2.1 (C.2.2.2.2.1 _ hcl) hov (C.2.2.2.2.1 _ harr) hcy C.2.2.2.2.2.1 hP0 hD0 hS C.2.2.2.2.2.2.2.1 (by decide) (by decide) (by decide) (by decide) (by decide) (by decide) (by decide) rfl rfl hk hs (fun c => ?_) hd (fun q r c2 H1 _ _ hK1 hP1 hD1 hS1 => ?_)
  · show ({ cls := c, slots := Array.replicate 12 (.int 0), vm := .none } : Cell) = _
    rw [arrV_new]
    rfl
  · have e1 : X.s.vm.findClass ("[" ++ (FieldType.array .int).toString) = some (X.cs 3) := (C.2.2.2.2.2.1.2 3 (X.cs 3, .array .int) rfl).2
    have e2 : X.s.vm.findClass ("[" ++ (FieldType.array .int).toString) = some c2 := (hK1.2 5 (c2, .array .int) rfl).2
    have e3 : c2 = X.cs 3 := Option.some.inj (e2.symm.trans e1)
    subst e3
    rw [List.nil_append, bb_rows8] at hP1 hD1
    exact k q r H1 locs ls hP1 hD1 hS1 hl
theorem bb_callI {p : Program} {l : Launch} {e : Env} {R : Room} {s : State} {m : MethodId} {args : Array Value} {below : List Frame} {meth : Method} {c : Code} {H : Heap} {locs : List Loc} {cells slots mc ms : Nat} {Q : State → Prop} {pc : Nat} {ls : Array Slot} {rest st0 : List Value} {a : Array Value} {A0 : Nat → Prop} {H0 : Heap} {D : va_G} {cs : Nat → ClassId} {post : va_W → Prop} {wc : va_W}
    (hr : va_Run p l e R s m args below meth c H locs cells slots mc ms (F0 m pc ls st0) rest (bb_QI D cs post wc H.size a) (va_A wc H.size)) (hS : va_S A0 H0 H locs) (hf : ∀ q, va_A wc H.size q → A0 q)
    (kk : ∀ (wc' : va_W) (H1 : Heap) (locs1 : List Loc), post wc' → va_P D bb_CL wc' H1 → va_D (va_A wc H.size) wc' → (∀ q : Nat, q < H.size → ¬ va_A wc H.size q → H1[q]? = H[q]?) → va_S A0 H0 H1 locs1 → W p l e R s m args below meth c H1 locs1 (cells + mc) (slots + ms) Q (F0 m (pc + 3) ls rest)) : W p l e R s m args below meth c H locs cells slots Q (F0 m pc ls st0) := by
  intro T hT X
  obtain ⟨v1, st₀, t, T', L, h0, X', hL, e1, e2, ⟨hv, ⟨wc', hp, hP1, hD1⟩, hz, hk⟩, st⟩ := hr T hT X
  cases hv
  rw [h0] at hz hk
  obtain ⟨t2, a1, b1⟩ := kk wc' T'.heap (locs ++ L) hp (by rw [e1]; exact hP1) hD1 (fun q h1 h2 => by rw [e1]; exact hk q h1 h2)
    ⟨Nat.le_trans hS.1 (by rw [e1]; exact hz), fun q h1 h2 => by rw [e1, hk q (Nat.lt_of_lt_of_le h1 hS.1) (fun z => h2 (hf q z))]; exact hS.2.1 q h1 h2, fun q hq => by
      rcases List.mem_append.mp hq with h | h
      · exact hS.2.2 q h
      · exact hf _ (hL q h)⟩ T' rfl X'
  exact ⟨t2, st t2 a1, b1⟩
theorem z_behindI {wr wc : va_W} {st : List Value} {mc ms : Nat} {post : va_W → Prop} {a : Array Value} (C : bb_C X own cc nL)
    (hr : ∀ (H : Heap) (locs : List Loc) (ls : Array Slot), va_P X.D bb_CL wc H → va_D (fun _ => True) wc → lv_has ls nL lv → va_Run X.p X.l X.e X.R X.s X.m X.args X.below X.meth X.c H locs X.k X.n mc ms (F0 X.m pc ls st) rest (bb_QI X.D X.cs post wc H.size a) (va_A wc H.size))
    (k : ∀ wc', post wc' → bb_Z (X.kn (X.k + mc) (X.n + ms)) nL (wr ++ wc') (pc + 3) lv rest) : bb_Z X nL (wr ++ wc) pc lv st := by
  intro H locs ls hP hD hS hl
  have eR : (List.range wr.length).map (fun i => (wr ++ wc)[i]?) = wr.map some := by
    apply List.ext_getElem?
    intro i
    by_cases h : i < wr.length
    · simp [h, List.getElem?_append_left h]
    · simp [h]
  have eC : ((List.range wc.length).map (fun i => wr.length + i)).map (fun i => (wr ++ wc)[i]?) = wc.map some := by
    apply List.ext_getElem?
    intro i
    by_cases h : i < wc.length
    · simp [h]
    · simp [h]
  have nR : va_nd (List.range wr.length) = true := bb_nd_of _ List.nodup_range
  have nC : va_nd ((List.range wc.length).map (fun i => wr.length + i)) = true := by
    refine bb_nd_of _ ?_
    rw [List.nodup_iff_pairwise_ne, List.pairwise_map]
    exact (List.nodup_range (n := wc.length)).imp (fun hab e => hab (by omega))
  have hdis : ∀ i ∈ List.range wr.length, i ∉ (List.range wc.length).map (fun i => wr.length + i) := fun i hi h => by
    obtain ⟨j, -, rfl⟩ := List.mem_map.mp h
    have := List.mem_range.mp hi
    omega
  have hPc : va_P X.D bb_CL wc H := fun k q hk => by
    obtain ⟨i, hi⟩ := List.mem_iff_getElem?.mp (List.mem_append_right wr (List.mem_of_getElem? hk))
    exact hP i q hi
  have hDc := hD.sub (ws' := wc) _ nC eC
  have hF := va_free (wc := wc) hD hS C.2.2.2.2.2.2.2.1 _ eC
  refine bb_callI (hr H locs ls hPc (hDc.weaken (fun _ _ _ _ => trivial)) hl) hS hF (fun wc' H1 locs1 hp hP1 hD1 hk1 hS1 => ?_)
  obtain ⟨hP2, hD2⟩ := va_join (wr := wr) (w1 := wc') hP hD _ _ eC eR nR hdis hk1 hF hP1 hD1
  exact k wc' hp H1 locs1 ls hP2 hD2 hS1 hl
def bb_ci (y : MethodName) (code : ByteArray) (maxL : Nat) : Prop := Cond.instanceMethod y ∈ bb_tb ∧ Cond.initialized y.cls ∈ bb_tb ∧ Cond.code y code maxL none ∈ bb_tb ∧ (y.cls ≠ "java/lang/invoke/MethodHandle" ∧ y.cls ≠ "java/lang/invoke/VarHandle" ∧ (parseMethodDescriptor y.desc).map (fun d => d.parameters.length) = some 0) ∧ y.name = "<init>" ∧ maxL ≤ 21
theorem z_callN {index d maxL mc ms b : Nat} {y : MethodName} {code : ByteArray} {host : String} {wr wc : va_W} {post : va_W → Prop} (C : bb_C X own cc nL) (hE : bb_E X.s) (hR : bb_r X (d + 1)) (hM : bb_MI X.l y code maxL d mc ms X.D X.cs [.ref b] post wc) (hcl : bb_ci y code maxL) (hl : va_Nw (.methodLinkNest own index y host) X.s) (hcat : (rest.map fun v => v.category).sum ≤ 8) (hk : X.k + mc ≤ X.R.cells) (hs : X.n + ms ≤ X.R.slots) (hd : decode cc pc = .ok (.invokespecial index, 3)) (k : ∀ wc', post wc' → bb_Z (X.kn (X.k + mc) (X.n + ms)) nL (wr ++ wc') (pc + 3) lv rest) : bb_Z X nL (wr ++ wc) pc lv (.ref b :: rest) := by
  obtain ⟨i1, i3, i4, i5, i6, i7⟩ := hcl
  have hr8 := hR.2
  have hcn : va_CN X.R X.s X.args own index y host code maxL none (.code y code maxL none :: bb_tb) { frames := d, cells := mc, slots := ms, locals := 40 * d } mc ms 0 :=
    va_cnB 0 C.2.2.2.2.1 (bb_goodIn (fun w hw => by
      rcases List.mem_cons.mp hw with rfl | h
      · exact i4
      · exact h)) rfl rfl rfl hl (C.2.2.2.2.1 _ i3) i5 ⟨hR.1, by show 8 + (maxL + 11) + 40 * d ≤ X.R.locals; omega⟩
  refine z_behindI (a := [Value.ref b].toArray) C (fun H locs ls hPc hDc hl9 => ?_) k
  exact va_runIN (As := []) ⟨C.1, C.2.1, C.2.2.1, C.2.2.2.1, C.2.2.2.2.1⟩ (hM H.size) ⟨hcn, i6, C.2.2.2.2.1 _ i1⟩ ⟨bb_blindI, fun U hU hW => ⟨⟨rfl, by rw [hU], by rw [hU]; exact hPc, va_K.moved hW.alike C.2.2.2.2.2.1, hDc⟩, hE.warm hW⟩⟩ rfl rfl hl9.1 rfl (lv_room hcat) hd ⟨hk, hs⟩
theorem z_callI {index d maxL mc ms b : Nat} {y : MethodName} {code : ByteArray} {wr wc : va_W} {post : va_W → Prop} (C : bb_C X own cc nL) (hE : bb_E X.s) (hR : bb_r X (d + 1)) (hM : bb_MI X.l y code maxL d mc ms X.D X.cs [.ref b] post wc) (hcl : bb_ci y code maxL) (hl : Cond.methodLink own index y ∈ bb_tb) (hcat : (rest.map fun v => v.category).sum ≤ 8) (hk : X.k + mc ≤ X.R.cells) (hs : X.n + ms ≤ X.R.slots) (hd : decode cc pc = .ok (.invokespecial index, 3)) (k : ∀ wc', post wc' → bb_Z (X.kn (X.k + mc) (X.n + ms)) nL (wr ++ wc') (pc + 3) lv rest) : bb_Z X nL (wr ++ wc) pc lv (.ref b :: rest) := by
  obtain ⟨i1, i3, i4, i5, i6, i7⟩ := hcl
  have hr8 := hR.2
  have hcb : CallB X.R X.s X.args own index y code maxL none (.code y code maxL none :: bb_tb) { frames := d, cells := mc, slots := ms, locals := 40 * d } mc ms 0 :=
    callB_of 0 C.2.2.2.2.1 (bb_goodIn (fun w hw => by
      rcases List.mem_cons.mp hw with rfl | h
      · exact i4
      · exact h)) rfl rfl rfl (C.2.2.2.2.1 _ i3) (C.2.2.2.2.1 _ hl) i5 ⟨hR.1, by show 8 + (maxL + 11) + 40 * d ≤ X.R.locals; omega⟩
  refine z_behindI (a := [Value.ref b].toArray) C (fun H locs ls hPc hDc hl9 => ?_) k
  exact va_runI (As := []) ⟨C.1, C.2.1, C.2.2.1, C.2.2.2.1, C.2.2.2.2.1⟩ (hM H.size) ⟨hcb, i6, C.2.2.2.2.1 _ i1⟩ ⟨bb_blindI, fun U hU hW => ⟨⟨rfl, by rw [hU], by rw [hU]; exact hPc, va_K.moved hW.alike C.2.2.2.2.2.1, hDc⟩, hE.warm hW⟩⟩ rfl rfl hl9.1 rfl (lv_room hcat) hd ⟨hk, hs⟩
end ZI
