/-! ===== contracts: a method as a function of its world ===== -/
def bb_P (D : va_G) (cs : Nat → ClassId) (ws : va_W) (sz : Nat) (av : List Value) : Array Value → State → Prop := va_Pc av (fun U => U.heap.size = sz ∧ va_P D bb_CL ws U.heap ∧ va_K D bb_CL (bb_ty cs) U ∧ va_D (fun _ => True) ws)
def bb_Q (D : va_G) (cs : Nat → ClassId) (v : Option Value) (ws ws' : va_W) (sz : Nat) : Array Value → State → Outcome → State → Prop := fun _ st oc t => oc = .returned v ∧ va_P D bb_CL ws' t.heap ∧ va_K D bb_CL (bb_ty cs) t ∧ va_D (va_A ws sz) ws' ∧ va_F (va_A ws sz) st t
/-- method y, of level d: in the world ws, called with av, it answers v and leaves ws' -/
def bb_M (l : Launch) (y : MethodName) (code : ByteArray) (maxL : Nat) (ret : Option FieldType) (d : Nat) (D : va_G) (cs : Nat → ClassId) (av : List Value) (v : Option Value) (ws ws' : va_W) : Prop :=
  ∀ sz, Met l y (.code y code maxL ret :: bb_tb) { frames := d, cells := 0, slots := 0, locals := 40 * d } (bb_P D cs ws sz av) (bb_Q D cs v ws ws' sz) 0 0 (va_A ws sz)
theorem bb_blind {D : va_G} {cs : Nat → ClassId} {ws : va_W} {sz : Nat} {av : List Value} : FrameBlind (bb_P D cs ws sz av) := fun a U g mk q => by
  obtain ⟨q0, q1, qP, qK, qD⟩ := q
  exact ⟨q0, q1, qP, va_K.moved (u := U) (U := U.calling g mk a) (Vm.Alike.refl U.vm) qK, qD⟩
/-- what the end of a walk must be -/
def bb_R (X : bb_X) (v : Option Value) (wR : va_W) : Prop := ∃ (ws0 : va_W) (sz : Nat), X.A = va_A ws0 sz ∧ X.k = 0 ∧ X.n = 0 ∧ X.Q = MQ X.below (bb_Q X.D X.cs v ws0 wR sz) X.args X.s 0 0 (va_A ws0 sz)
theorem bb_mg {l : Launch} {y : MethodName} {code : ByteArray} {maxL : Nat} {ret : Option FieldType} {d : Nat} {D : va_G} {cs : Nat → ClassId} {av : List Value} {v : Option Value} {ws ws' : va_W} {own : String} {lv : List (Nat × Value)} (hy : plainName y.cls = true) (hown : y.cls = own) (hlen : (lg_sl av).length ≤ maxL) (hlv : lv_args 0 av = lv)
    (body : ∀ X : bb_X, X.l = l → X.D = D → X.cs = cs → bb_C X own code maxL → bb_r X d → X.meth.sig.returnType = ret → bb_R X v ws' → bb_Z X maxL ws 0 lv []) : bb_M l y code maxL ret d D cs av v ws ws' := by
  intro sz
  refine Met.ofW (cc := code) (maxL := maxL) (ret := ret) hy rfl ?_
  intro p e s m args below meth c s₁ B hml hv
  obtain ⟨rfl, hsz, hP, hK, hD0⟩ := hv
  subst hsz
  have hts := atoms_spec (ws := .code y code maxL ret :: bb_tb) B.pre
  have hownF : s.vm.findClass own = some m.cls := by rw [← hown]; exact findClass_of_methodNamed B.named
  have hl := lv_entry av (n := maxL) hlen
  rw [hlv] at hl
  rw [lg_entry_eq]
  generalize (lg_sl av ++ List.replicate (maxL - (lg_sl av).length) Slot.unset).toArray = ls at hl ⊢
  exact body (p, l, e, { frames := d, cells := 0, slots := 0, locals := 40 * d }, s, m, av.toArray, below, meth, c, va_A ws s.heap.size, D, cs, MQ below (bb_Q D cs v ws ws' s.heap.size) av.toArray s 0 0 (va_A ws s.heap.size), 0, 0) rfl rfl rfl ⟨B.exec, B.bytes, hml, hownF, fun w hw => hts w (List.mem_cons_of_mem _ hw), hK, B.notSynchronized, fun q hq => Or.inr hq, Nat.le_refl _, Nat.le_refl _⟩ ⟨Nat.le_refl _, Nat.le_refl _⟩ B.returns ⟨ws, s.heap.size, rfl, rfl, rfl, rfl⟩ s.heap [] ls hP (hD0.self (sz := s.heap.size)) va_S.rf hl
section ZE
variable {X : bb_X} {own : String} {cc : ByteArray} {nL : Nat} {ws : va_W} {pc : Nat} {lv : List (Nat × Value)} {rest : List Value}
theorem z_iret (C : bb_C X own cc nL) {v : Int32} (hr : X.meth.sig.returnType = some .int) (h : bb_R X (some (.int v)) ws) (hd : decode cc pc = .ok (.ireturn, 1)) : bb_Z X nL ws pc lv [.int v] := by
  obtain ⟨ws0, sz, hA, hk, hn, hQ⟩ := h
  intro H locs ls hP hD hS hl
  rw [hQ, hk, hn]
  rw [hA] at hD hS
  exact W.iret C.1 C.2.1 hr (fun t ht hW => ⟨rfl, by rw [ht]; exact hP, va_K.moved hW.alike C.2.2.2.2.2.1, hD, hS.F ht⟩) hS.2.2 hd C.2.2.2.2.2.2.1
theorem z_zret (C : bb_C X own cc nL) {v : Int32} {ty : FieldType} (hr : X.meth.sig.returnType = some ty) (hn : narrow ty (.int v) = .int v) (h : bb_R X (some (.int v)) ws) (hd : decode cc pc = .ok (.ireturn, 1)) : bb_Z X nL ws pc lv [.int v] := by
  obtain ⟨ws0, sz, hA, hk, hn0, hQ⟩ := h
  intro H locs ls hP hD hS hl
  rw [hQ, hk, hn0]
  rw [hA] at hD hS
  exact W.zret C.1 C.2.1 hr hn (fun t ht hW => ⟨rfl, by rw [ht]; exact hP, va_K.moved hW.alike C.2.2.2.2.2.1, hD, hS.F ht⟩) hS.2.2 hd C.2.2.2.2.2.2.1
theorem z_vret (C : bb_C X own cc nL) (hr : X.meth.sig.returnType = none) (h : bb_R X none ws) (hd : decode cc pc = .ok (.return_, 1)) : bb_Z X nL ws pc lv [] := by
  obtain ⟨ws0, sz, hA, hk, hn0, hQ⟩ := h
  intro H locs ls hP hD hS hl
  rw [hQ, hk, hn0]
  rw [hA] at hD hS
  exact W.vret C.1 C.2.1 hr (fun t ht hW => ⟨rfl, by rw [ht]; exact hP, va_K.moved hW.alike C.2.2.2.2.2.1, hD, hS.F ht⟩) hS.2.2 hd C.2.2.2.2.2.2.1
end ZE
theorem bb_nz {v : Int32} (h : bb_z v) : narrow .boolean (.int v) = .int v := by
  rcases h with rfl | rfl <;> decide +kernel
theorem bb_fz {v : Int32} (h : bb_z v) : fits .boolean (.int v) = true := by
  rcases h with rfl | rfl <;> decide +kernel
theorem bb_nc {v : Int32} (h : bb_c v) : narrow .char (.int v) = .int v := by
  have e := pk_nc v
  unfold bb_c at h
  rw [h] at e
  exact e
/-! ===== parts of a world ===== -/
theorem bb_nd_of : ∀ l : List Nat, l.Nodup → va_nd l = true
  | [], _ => rfl
  | a :: l, h => by
    have h2 := List.nodup_cons.mp h
    simp only [va_nd, Bool.and_eq_true, decide_eq_true_eq]
    exact ⟨h2.1, bb_nd_of l h2.2⟩
def bb_cut (ws wc ws' wc' : va_W) : Prop := ∃ wr : va_W, List.Perm ws (wr ++ wc) ∧ List.Perm (wr ++ wc') ws'
theorem bb_P_perm {D : va_G} {cl : List vw_C} {w1 w2 : va_W} {H : Heap} (hp : List.Perm w1 w2) (h : va_P D cl w1 H) : va_P D cl w2 H := by
  intro k q hq
  obtain ⟨i, hi⟩ := List.mem_iff_getElem?.mp (hp.symm.mem_iff.mp (List.mem_of_getElem? hq))
  exact h i q hi
theorem bb_D_nodup {A : Nat → Prop} {ws : va_W} (h : va_D A ws) : (ws.map Prod.fst).Nodup := by
  rw [List.nodup_iff_pairwise_ne, List.pairwise_iff_getElem]
  intro i j hi hj hij e
  rw [List.getElem_map, List.getElem_map] at e
  rw [List.length_map] at hi hj
  exact absurd (h.1 i j _ _ (List.getElem?_eq_getElem hi) (List.getElem?_eq_getElem hj) e) (by omega)
theorem bb_D_of {A : Nat → Prop} {ws : va_W} (h : (ws.map Prod.fst).Nodup) (hA : ∀ q ∈ ws, A q.1) : va_D A ws := by
  refine ⟨fun i j p q hi hj e => ?_, fun k q hk => hA q (List.mem_of_getElem? hk)⟩
  rw [List.nodup_iff_pairwise_ne, List.pairwise_iff_getElem] at h
  obtain ⟨li, ei⟩ := List.getElem?_eq_some_iff.mp hi
  obtain ⟨lj, ej⟩ := List.getElem?_eq_some_iff.mp hj
  rcases Nat.lt_trichotomy i j with c | c | c
  · exact absurd (by rw [List.getElem_map, List.getElem_map, ei, ej]; exact e) (h i j (by rw [List.length_map]; exact li) (by rw [List.length_map]; exact lj) c)
  · exact c
  · exact absurd (by rw [List.getElem_map, List.getElem_map, ei, ej]; exact e.symm) (h j i (by rw [List.length_map]; exact lj) (by rw [List.length_map]; exact li) c)
theorem bb_D_perm {A : Nat → Prop} {w1 w2 : va_W} (hp : List.Perm w1 w2) (h : va_D A w1) : va_D A w2 := by
  refine bb_D_of ((hp.map Prod.fst).nodup_iff.mp (bb_D_nodup h)) (fun q hq => ?_)
  obtain ⟨i, hi⟩ := List.mem_iff_getElem?.mp (hp.symm.mem_iff.mp hq)
  exact h.2 i q hi
theorem bb_call {p : Program} {l : Launch} {e : Env} {R : Room} {s : State} {m : MethodId} {args : Array Value} {below : List Frame} {meth : Method} {c : Code} {H : Heap} {locs : List Loc} {cells slots : Nat} {Q : State → Prop} {pc : Nat} {ls : Array Slot} {rest st0 : List Value} {a : Array Value} {A0 : Nat → Prop} {H0 : Heap} {D : va_G} {cs : Nat → ClassId} {v : Option Value} {wc wc' : va_W}
    (hr : va_Run p l e R s m args below meth c H locs cells slots 0 0 (F0 m pc ls st0) rest (bb_Q D cs v wc wc' H.size a) (va_A wc H.size)) (hS : va_S A0 H0 H locs) (hf : ∀ q, va_A wc H.size q → A0 q)
    (kk : ∀ (H1 : Heap) (locs1 : List Loc), va_P D bb_CL wc' H1 → va_D (va_A wc H.size) wc' → (∀ q : Nat, q < H.size → ¬ va_A wc H.size q → H1[q]? = H[q]?) → va_S A0 H0 H1 locs1 → W p l e R s m args below meth c H1 locs1 cells slots Q (F0 m (pc + 3) ls (v.toList ++ rest))) : W p l e R s m args below meth c H locs cells slots Q (F0 m pc ls st0) := by
  intro T hT X
  obtain ⟨v1, st₀, t, T', L, h0, X', hL, e1, e2, ⟨hv, hP1, hK1, hD1, hz, hk⟩, st⟩ := hr T hT X
  cases hv
  rw [h0] at hz hk
  obtain ⟨t2, a1, b1⟩ := kk T'.heap (locs ++ L) (by rw [e1]; exact hP1) hD1 (fun q h1 h2 => by rw [e1]; exact hk q h1 h2)
    ⟨Nat.le_trans hS.1 (by rw [e1]; exact hz), fun q h1 h2 => by rw [e1, hk q (Nat.lt_of_lt_of_le h1 hS.1) (fun z => h2 (hf q z))]; exact hS.2.1 q h1 h2, fun q hq => by
      rcases List.mem_append.mp hq with h | h
      · exact hS.2.2 q h
      · exact hf _ (hL q h)⟩ T' rfl X'
  exact ⟨t2, st t2 a1, b1⟩
/-- what the tables say of a callee -/
def bb_cv (Cn : String) (y : MethodName) (code : ByteArray) (maxL : Nat) (ret : Option FieldType) (n : Nat) : Prop := Cond.instanceMethod y ∈ bb_tb ∧ Cond.selects Cn y y ∈ bb_tb ∧ Cond.initialized Cn ∈ bb_tb ∧ Cond.code y code maxL ret ∈ bb_tb ∧ (y.cls = Cn ∧ y.cls ≠ "java/lang/invoke/MethodHandle" ∧ y.cls ≠ "java/lang/invoke/VarHandle" ∧ (parseMethodDescriptor y.desc).map (fun d => d.parameters.length) = some n) ∧ maxL ≤ 21
def bb_cS (Cn : String) (y : MethodName) (code : ByteArray) (maxL : Nat) (ret : Option FieldType) (n : Nat) : Prop := Cond.static y ∈ bb_tb ∧ Cond.initialized Cn ∈ bb_tb ∧ Cond.code y code maxL ret ∈ bb_tb ∧ (y.cls = Cn ∧ y.cls ≠ "java/lang/invoke/MethodHandle" ∧ y.cls ≠ "java/lang/invoke/VarHandle" ∧ (parseMethodDescriptor y.desc).map (fun d => d.parameters.length) = some n) ∧ maxL ≤ 21
section ZC
variable {X : bb_X} {own : String} {cc : ByteArray} {nL : Nat} {ws : va_W} {pc : Nat} {lv : List (Nat × Value)}
theorem z_behind {ws' wc wc' : va_W} {rest st : List Value} {v : Option Value} {a : Array Value} (C : bb_C X own cc nL) (hcut : bb_cut ws wc ws' wc')
    (hr : ∀ (H : Heap) (locs : List Loc) (ls : Array Slot), va_P X.D bb_CL wc H → va_D (fun _ => True) wc → lv_has ls nL lv → va_Run X.p X.l X.e X.R X.s X.m X.args X.below X.meth X.c H locs X.k X.n 0 0 (F0 X.m pc ls st) rest (bb_Q X.D X.cs v wc wc' H.size a) (va_A wc H.size))
    (k : bb_Z X nL ws' (pc + 3) lv (v.toList ++ rest)) : bb_Z X nL ws pc lv st := by
  obtain ⟨wr, h1, h2⟩ := hcut
  intro H locs ls hP hD hS hl
  have hP := bb_P_perm h1 hP
  have hD := bb_D_perm h1 hD
  have eR : (List.range wr.length).map (fun i => (wr ++ wc)[i]?) = wr.map some := by
    apply List.ext_getElem?
    intro i
    by_cases h : i < wr.length
    · simp [h, List.getElem?_append_left h]
    · simp [h]
  have eC : ((List.range wc.length).map (fun i => wr.length + i)).map (fun i => (wr ++ wc)[i]?) = wc.map some := by
    apply List.ext_getElem?
    intro i
    by_cases h : i < wc.length
    · simp [h]
    · simp [h]
  have nR : va_nd (List.range wr.length) = true := bb_nd_of _ List.nodup_range
  have nC : va_nd ((List.range wc.length).map (fun i => wr.length + i)) = true := by
    refine bb_nd_of _ ?_
    rw [List.nodup_iff_pairwise_ne, List.pairwise_map]
    exact (List.nodup_range (n := wc.length)).imp (fun hab e => hab (by omega))
  have hdis : ∀ i ∈ List.range wr.length, i ∉ (List.range wc.length).map (fun i => wr.length + i) := fun i hi h => by
    obtain ⟨j, -, rfl⟩ := List.mem_map.mp h
    have := List.mem_range.mp hi
    omega
  have hPc : va_P X.D bb_CL wc H := fun k q hk => by
    obtain ⟨i, hi⟩ := List.mem_iff_getElem?.mp (List.mem_append_right wr (List.mem_of_getElem? hk))
    exact hP i q hi
  have hDc := hD.sub (ws' := wc) _ nC eC
  have hF := va_free (wc := wc) hD hS C.2.2.2.2.2.2.2.1 _ eC
  refine bb_call (hr H locs ls hPc (hDc.weaken (fun _ _ _ _ => trivial)) hl) hS hF (fun H1 locs1 hP1 hD1 hk1 hS1 => ?_)
  obtain ⟨hP2, hD2⟩ := va_join (wr := wr) (w1 := wc') hP hD _ _ eC eR nR hdis hk1 hF hP1 hD1
  exact k H1 locs1 ls (bb_P_perm h2 hP2) (bb_D_perm h2 hD2) hS1 hl
theorem z_callV {index n d maxL b ci q0 : Nat} {y : MethodName} {code : ByteArray} {ret : Option FieldType} {ws' wc wc' : va_W} {As rest st : List Value} {v : Option Value} {Cn : String} {T : u_T} {N : Nat} {fs : List Value} (C : bb_C X own cc nL) (hR : bb_r X (d + 1)) (hM : bb_M X.l y code maxL ret d X.D X.cs (.ref b :: As) v wc wc') (hcut : bb_cut ws wc ws' wc') (hcl : bb_cv Cn y code maxL ret n) (hl : Cond.methodLink own index y ∈ bb_tb) (hc : bb_CL[ci]? = some (Cn, T, N)) (he : wc[q0]? = some (b, .inr (ci, fs))) (hn : As.length = n) (hst : st = As.reverse ++ .ref b :: rest) (hcat : (rest.map fun v => v.category).sum ≤ 8) (hd : decode cc pc = .ok (.invokevirtual index, 3)) (k : bb_Z X nL ws' (pc + 3) lv (v.toList ++ rest)) : bb_Z X nL ws pc lv st := by
  obtain ⟨i1, i2, i3, i4, i5, i6⟩ := hcl
  have hr8 := hR.2
  have hcw : CallW X.R X.s X.args own Cn index y code maxL ret (.code y code maxL ret :: bb_tb) { frames := d, cells := 0, slots := 0, locals := 40 * d } 0 0 n :=
    cwV n C.2.2.2.2.1 (bb_goodIn (fun w hw => by
      rcases List.mem_append.mp hw with h | h
      · rcases List.mem_cons.mp h with rfl | h
        · exact hl
        · rcases List.mem_cons.mp h with rfl | h
          · exact i1
          · rcases List.mem_cons.mp h with rfl | h
            · exact i2
            · rw [List.mem_singleton.mp h]
              exact i3
      · rcases List.mem_cons.mp h with rfl | h
        · exact i4
        · exact h)) rfl rfl rfl i5 ⟨hR.1, by show 8 + (maxL + 11) + 40 * d ≤ X.R.locals; omega⟩
  refine z_behind (a := (Value.ref b :: As).toArray) C hcut (fun H locs ls hPc hDc hl9 => ?_) k
  exact va_runV ⟨C.1, C.2.1, C.2.2.1, C.2.2.2.1, C.2.2.2.2.1⟩ (hM H.size) hcw ⟨bb_blind, va_recv C.2.2.2.2.2.1 hPc hc he, fun U hU hW => ⟨rfl, by rw [hU], by rw [hU]; exact hPc, va_K.moved hW.alike C.2.2.2.2.2.1, hDc⟩⟩ rfl hn hl9.1 hst (lv_room hcat) hd ⟨C.2.2.2.2.2.2.2.2.1, C.2.2.2.2.2.2.2.2.2⟩
theorem z_callS {index n d maxL : Nat} {y : MethodName} {code : ByteArray} {ret : Option FieldType} {ws' wc wc' : va_W} {As rest st : List Value} {v : Option Value} {Cn : String} (C : bb_C X own cc nL) (hR : bb_r X (d + 1)) (hM : bb_M X.l y code maxL ret d X.D X.cs As v wc wc') (hcut : bb_cut ws wc ws' wc') (hcl : bb_cS Cn y code maxL ret n) (hl : Cond.methodLink own index y ∈ bb_tb) (hn : As.length = n) (hst : st = As.reverse ++ rest) (hcat : (rest.map fun v => v.category).sum ≤ 8) (hd : decode cc pc = .ok (.invokestatic index, 3)) (k : bb_Z X nL ws' (pc + 3) lv (v.toList ++ rest)) : bb_Z X nL ws pc lv st := by
  obtain ⟨i1, i3, i4, ⟨i5, i7⟩, i6⟩ := hcl
  have hr8 := hR.2
  have hcb : CallB X.R X.s X.args own index y code maxL ret (.code y code maxL ret :: bb_tb) { frames := d, cells := 0, slots := 0, locals := 40 * d } 0 0 n :=
    callB_of n C.2.2.2.2.1 (bb_goodIn (fun w hw => by
      rcases List.mem_cons.mp hw with rfl | h
      · exact i4
      · exact h)) rfl rfl rfl (by rw [i5]; exact C.2.2.2.2.1 _ i3) (C.2.2.2.2.1 _ hl) i7 ⟨hR.1, by show 8 + (maxL + 11) + 40 * d ≤ X.R.locals; omega⟩
  refine z_behind (a := As.toArray) C hcut (fun H locs ls hPc hDc hl9 => ?_) k
  exact va_runS ⟨C.1, C.2.1, C.2.2.1, C.2.2.2.1, C.2.2.2.2.1⟩ (hM H.size) ⟨hcb, C.2.2.2.2.1 _ i1⟩ ⟨bb_blind, fun U hU hW => ⟨rfl, by rw [hU], by rw [hU]; exact hPc, va_K.moved hW.alike C.2.2.2.2.2.1, hDc⟩⟩ rfl hn hl9.1 hst (lv_room hcat) hd ⟨C.2.2.2.2.2.2.2.2.1, C.2.2.2.2.2.2.2.2.2⟩
theorem z_callVi {index n d maxL b ci q0 : Nat} {y : MethodName} {code : ByteArray} {ret : Option FieldType} {ws' wc wc' : va_W} {As rest st : List Value} {r : Int32} {Cn : String} {T : u_T} {N : Nat} {fs : List Value} (C : bb_C X own cc nL) (hR : bb_r X (d + 1)) (hM : bb_M X.l y code maxL ret d X.D X.cs (.ref b :: As) (some (.int r)) wc wc') (hcut : bb_cut ws wc ws' wc') (hcl : bb_cv Cn y code maxL ret n) (hl : Cond.methodLink own index y ∈ bb_tb) (hc : bb_CL[ci]? = some (Cn, T, N)) (he : wc[q0]? = some (b, .inr (ci, fs))) (hn : As.length = n) (hst : st = As.reverse ++ .ref b :: rest) (hcat : (rest.map fun v => v.category).sum ≤ 8) (hd : decode cc pc = .ok (.invokevirtual index, 3)) (k : bb_Z X nL ws' (pc + 3) lv (.int r :: rest)) : bb_Z X nL ws pc lv st := z_callV C hR hM hcut hcl hl hc he hn hst hcat hd k
theorem z_callVv {index n d maxL b ci q0 : Nat} {y : MethodName} {code : ByteArray} {ret : Option FieldType} {ws' wc wc' : va_W} {As rest st : List Value} {Cn : String} {T : u_T} {N : Nat} {fs : List Value} (C : bb_C X own cc nL) (hR : bb_r X (d + 1)) (hM : bb_M X.l y code maxL ret d X.D X.cs (.ref b :: As) none wc wc') (hcut : bb_cut ws wc ws' wc') (hcl : bb_cv Cn y code maxL ret n) (hl : Cond.methodLink own index y ∈ bb_tb) (hc : bb_CL[ci]? = some (Cn, T, N)) (he : wc[q0]? = some (b, .inr (ci, fs))) (hn : As.length = n) (hst : st = As.reverse ++ .ref b :: rest) (hcat : (rest.map fun v => v.category).sum ≤ 8) (hd : decode cc pc = .ok (.invokevirtual index, 3)) (k : bb_Z X nL ws' (pc + 3) lv rest) : bb_Z X nL ws pc lv st := z_callV C hR hM hcut hcl hl hc he hn hst hcat hd k
theorem z_callSi {index n d maxL : Nat} {y : MethodName} {code : ByteArray} {ret : Option FieldType} {ws' wc wc' : va_W} {As rest st : List Value} {r : Int32} {Cn : String} (C : bb_C X own cc nL) (hR : bb_r X (d + 1)) (hM : bb_M X.l y code maxL ret d X.D X.cs As (some (.int r)) wc wc') (hcut : bb_cut ws wc ws' wc') (hcl : bb_cS Cn y code maxL ret n) (hl : Cond.methodLink own index y ∈ bb_tb) (hn : As.length = n) (hst : st = As.reverse ++ rest) (hcat : (rest.map fun v => v.category).sum ≤ 8) (hd : decode cc pc = .ok (.invokestatic index, 3)) (k : bb_Z X nL ws' (pc + 3) lv (.int r :: rest)) : bb_Z X nL ws pc lv st := z_callS C hR hM hcut hcl hl hn hst hcat hd k
theorem z_callSv {index n d maxL : Nat} {y : MethodName} {code : ByteArray} {ret : Option FieldType} {ws' wc wc' : va_W} {As rest st : List Value} {Cn : String} (C : bb_C X own cc nL) (hR : bb_r X (d + 1)) (hM : bb_M X.l y code maxL ret d X.D X.cs As none wc wc') (hcut : bb_cut ws wc ws' wc') (hcl : bb_cS Cn y code maxL ret n) (hl : Cond.methodLink own index y ∈ bb_tb) (hn : As.length = n) (hst : st = As.reverse ++ rest) (hcat : (rest.map fun v => v.category).sum ≤ 8) (hd : decode cc pc = .ok (.invokestatic index, 3)) (k : bb_Z X nL ws' (pc + 3) lv rest) : bb_Z X nL ws pc lv st := z_callS C hR hM hcut hcl hl hn hst hcat hd k
end ZC
theorem bb_cut_self (ws ws' : va_W) : bb_cut ws ws ws' ws' := ⟨[], List.Perm.refl _, List.Perm.refl _⟩
theorem bb_cut_none (ws : va_W) : bb_cut ws [] ws [] := ⟨ws, by rw [List.append_nil], by rw [List.append_nil]⟩
/-- the first of several -/
theorem cut_h {b c b' : va_W} : bb_cut (b ++ c) b (b' ++ c) b' := ⟨c, List.perm_append_comm, List.perm_append_comm⟩
/-- one behind the first -/
theorem cut_r {w r r' x x' : va_W} (h : bb_cut r x r' x') : bb_cut (w ++ r) x (w ++ r') x' := by
  obtain ⟨wr, h1, h2⟩ := h
  exact ⟨w ++ wr, by rw [List.append_assoc]; exact h1.append_left w, by rw [List.append_assoc]; exact h2.append_left w⟩
/-- the first and one behind it, in either order -/
theorem cut_a {b b' c c' y y' : va_W} (h : bb_cut c y c' y') : bb_cut (b ++ c) (b ++ y) (b' ++ c') (b' ++ y') := by
  obtain ⟨wr, h1, h2⟩ := h
  refine ⟨wr, (h1.append_left b).trans ?_, List.Perm.trans ?_ (h2.append_left b')⟩
  · rw [← List.append_assoc, ← List.append_assoc]
    exact List.Perm.append_right y List.perm_append_comm
  · rw [← List.append_assoc, ← List.append_assoc]
    exact List.Perm.append_right y' List.perm_append_comm
theorem cut_b {b b' c c' y y' : va_W} (h : bb_cut c y c' y') : bb_cut (b ++ c) (y ++ b) (b' ++ c') (y' ++ b') := by
  obtain ⟨wr, h1, h2⟩ := cut_a (b := b) (b' := b') h
  exact ⟨wr, h1.trans (List.Perm.append_left wr List.perm_append_comm), (List.Perm.append_left wr List.perm_append_comm).trans h2⟩
