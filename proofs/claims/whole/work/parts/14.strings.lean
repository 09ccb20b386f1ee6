/-! ===== the text "psbhl": its object at a, its bytes at b ===== -/
def bb_kl : List Int32 := [112, 115, 98, 104, 108]
def bb_kb (j : Nat) : Int32 := bb_kl.getD j 0
def bb_S (a b : Nat) (A : Nat → Prop) (U : State) (H : Heap) : Prop :=
  va_Z "java/lang/String" "COMPACT_STRINGS" "Z" (.int 1) A U H ∧ va_O "java/lang/String" a A U H ∧ va_OF "java/lang/String" "coder" "B" (.int 0) a A U H ∧ va_OF "java/lang/String" "value" "[B" (.ref b) a A U H ∧ va_T .byte b 5 (fun j => .int (bb_kb j)) A U H ∧ vk_R "BlindBuff$Tape" 59 "psbhl" a U
theorem bb_S.go {a b : Nat} {A B : Nat → Prop} {s U : State} {H : Heap} {locs : List Loc} (h : bb_S a b A s s.heap) (hS : va_S A s.heap H locs) (hB : ∀ q, B q → A q) (hU : U.heap = H) (hW : s.WarmedH U.vm) : bb_S a b B U U.heap := by
  obtain ⟨h1, h2, h3, h4, h5, h6⟩ := h
  rw [hU]
  exact ⟨((h1.kept hS.2.1).narrow hB).moved hW.alike, ((h2.kept hS.2.1).narrow hB).moved hW.alike, ((h3.kept hS.2.1).narrow hB).moved hW.alike, ((h4.kept hS.2.1).narrow hB).moved hW.alike, ((h5.kept hS.2.1).narrow hB).moved hW.alike, h6.warm hW⟩
theorem bb_S.calling {a b : Nat} {A : Nat → Prop} {U : State} {g : JFrame} {mk : MethodId} {av : Array Value} (h : bb_S a b A U U.heap) : bb_S a b A (U.calling g mk av) (U.calling g mk av).heap := by
  obtain ⟨h1, h2, h3, h4, h5, h6⟩ := h
  exact ⟨h1.moved (Vm.Alike.refl U.vm), h2.moved (Vm.Alike.refl U.vm), h3.moved (Vm.Alike.refl U.vm), h4.moved (Vm.Alike.refl U.vm), h5.moved (Vm.Alike.refl U.vm), h6.same rfl⟩
/-- a contract that takes the text as given -/
def bb_PS (a b : Nat) (D : va_G) (cs : Nat → ClassId) (ws : va_W) (sz : Nat) (av : List Value) : Array Value → State → Prop := fun v U => bb_P D cs ws sz av v U ∧ bb_S a b (va_A ws sz) U U.heap
def bb_MS (a b : Nat) (l : Launch) (y : MethodName) (code : ByteArray) (maxL : Nat) (ret : Option FieldType) (d : Nat) (D : va_G) (cs : Nat → ClassId) (av : List Value) (v : Option Value) (ws ws' : va_W) : Prop :=
  ∀ sz, Met l y (.code y code maxL ret :: bb_tb) { frames := d, cells := 0, slots := 0, locals := 40 * d } (bb_PS a b D cs ws sz av) (bb_Q D cs v ws ws' sz) 0 0 (va_A ws sz)
theorem bb_blindS {a b : Nat} {D : va_G} {cs : Nat → ClassId} {ws : va_W} {sz : Nat} {av : List Value} : FrameBlind (bb_PS a b D cs ws sz av) := fun x U g mk q => ⟨bb_blind x U g mk q.1, q.2.calling⟩
theorem bb_mgS {a b : Nat} {l : Launch} {y : MethodName} {code : ByteArray} {maxL : Nat} {ret : Option FieldType} {d : Nat} {D : va_G} {cs : Nat → ClassId} {av : List Value} {v : Option Value} {ws ws' : va_W} {own : String} {lv : List (Nat × Value)} (hy : plainName y.cls = true) (hown : y.cls = own) (hlen : (lg_sl av).length ≤ maxL) (hlv : lv_args 0 av = lv)
    (body : ∀ X : bb_X, X.l = l → X.D = D → X.cs = cs → bb_C X own code maxL → bb_r X d → X.meth.sig.returnType = ret → bb_R X v ws' → bb_S a b X.A X.s X.s.heap → bb_Z X maxL ws 0 lv []) : bb_MS a b l y code maxL ret d D cs av v ws ws' := by
  intro sz
  refine Met.ofW (cc := code) (maxL := maxL) (ret := ret) hy rfl ?_
  intro p e s m args below meth c s₁ B hml hv
  obtain ⟨⟨rfl, hsz, hP, hK, hD0⟩, hE⟩ := hv
  subst hsz
  have hts := atoms_spec (ws := .code y code maxL ret :: bb_tb) B.pre
  have hownF : s.vm.findClass own = some m.cls := by rw [← hown]; exact findClass_of_methodNamed B.named
  have hl := lv_entry av (n := maxL) hlen
  rw [hlv] at hl
  rw [lg_entry_eq]
  generalize (lg_sl av ++ List.replicate (maxL - (lg_sl av).length) Slot.unset).toArray = ls at hl ⊢
  exact body (p, l, e, { frames := d, cells := 0, slots := 0, locals := 40 * d }, s, m, av.toArray, below, meth, c, va_A ws s.heap.size, D, cs, MQ below (bb_Q D cs v ws ws' s.heap.size) av.toArray s 0 0 (va_A ws s.heap.size), 0, 0) rfl rfl rfl ⟨B.exec, B.bytes, hml, hownF, fun w hw => hts w (List.mem_cons_of_mem _ hw), hK, B.notSynchronized, fun q hq => Or.inr hq, Nat.le_refl _, Nat.le_refl _⟩ ⟨Nat.le_refl _, Nat.le_refl _⟩ B.returns ⟨ws, s.heap.size, rfl, rfl, rfl, rfl⟩ hE s.heap [] ls hP (hD0.self (sz := s.heap.size)) va_S.rf hl
section ZS
variable {X : bb_X} {own : String} {cc : ByteArray} {nL : Nat} {ws : va_W} {pc : Nat} {lv : List (Nat × Value)} {rest : List Value} {a b : Nat}
theorem z_compact (C : bb_C X own cc nL) (hE : bb_S a b X.A X.s X.s.heap) {index : Nat} (hl : Cond.fieldLink own index "java/lang/String" "COMPACT_STRINGS" "Z" ∈ bb_tb) (hd : decode cc pc = .ok (.getstatic index, 3)) (k : bb_Z X nL ws (pc + 3) lv (.int 1 :: rest)) : bb_Z X nL ws pc lv rest := fun H locs ls hP hD hS hl9 => va_gets C.1 C.2.1 hE.1 hS C.2.2.2.1 (C.2.2.2.2.1 _ hl) (fun _ h => h) hd (k H locs ls hP hD hS hl9)
theorem z_strc (C : bb_C X own cc nL) (hE : bb_S a b X.A X.s X.s.heap) {index : Nat} (hl : Cond.fieldLink own index "java/lang/String" "coder" "B" ∈ bb_tb) (hd : decode cc pc = .ok (.getfield index, 3)) (k : bb_Z X nL ws (pc + 3) lv (.int 0 :: rest)) : bb_Z X nL ws pc lv (.ref a :: rest) := fun H locs ls hP hD hS hl9 => vk_getf C.1 C.2.1 hE.2.2.1 hS C.2.2.2.1 (C.2.2.2.2.1 _ hl) (fun _ h => h) hd (k H locs ls hP hD hS hl9)
theorem z_strv (C : bb_C X own cc nL) (hE : bb_S a b X.A X.s X.s.heap) {index : Nat} (hl : Cond.fieldLink own index "java/lang/String" "value" "[B" ∈ bb_tb) (hd : decode cc pc = .ok (.getfield index, 3)) (k : bb_Z X nL ws (pc + 3) lv (.ref b :: rest)) : bb_Z X nL ws pc lv (.ref a :: rest) := fun H locs ls hP hD hS hl9 => vk_getf C.1 C.2.1 hE.2.2.2.1 hS C.2.2.2.1 (C.2.2.2.2.1 _ hl) (fun _ h => h) hd (k H locs ls hP hD hS hl9)
theorem z_blen (C : bb_C X own cc nL) (hE : bb_S a b X.A X.s X.s.heap) (hd : decode cc pc = .ok (.arraylength, 1)) (k : bb_Z X nL ws (pc + 1) lv (.int 5 :: rest)) : bb_Z X nL ws pc lv (.ref b :: rest) := fun H locs ls hP hD hS hl9 => va_tlen C.1 C.2.1 hE.2.2.2.2.1 hS (v := 5) (by decide) hd (k H locs ls hP hD hS hl9)
theorem z_bald (C : bb_C X own cc nL) (hE : bb_S a b X.A X.s X.s.heap) {i : Int32} (hin : vp_in i 5) (hd : decode cc pc = .ok (.baload, 1)) (k : bb_Z X nL ws (pc + 1) lv (.int (bb_kb i.toNatClampNeg) :: rest)) : bb_Z X nL ws pc lv (.int i :: .ref b :: rest) := fun H locs ls hP hD hS hl9 => va_tb C.1 C.2.1 hE.2.2.2.2.1 hS hin rfl hd (k H locs ls hP hD hS hl9)
theorem z_ldcS (C : bb_C X RX3 cc nL) (hE : bb_S a b X.A X.s X.s.heap) (hd : decode cc pc = .ok (.ldc 59, 2)) (k : bb_Z X nL ws (pc + 2) lv (.ref a :: rest)) : bb_Z X nL ws pc lv rest := fun H locs ls hP hD hS hl9 => va_ldcS (own := RX3) C.1 C.2.1 C.2.2.2.1 hE.2.2.2.2.2 hd (k H locs ls hP hD hS hl9)
theorem z_behindS {ws' wc wc' : va_W} {rest st : List Value} {v : Option Value} {av : Array Value} (C : bb_C X own cc nL) (hcut : bb_cut ws wc ws' wc')
    (hr : ∀ (H : Heap) (locs : List Loc) (ls : Array Slot), va_P X.D bb_CL wc H → va_D (fun _ => True) wc → lv_has ls nL lv → va_S X.A X.s.heap H locs → (∀ q, va_A wc H.size q → X.A q) → va_Run X.p X.l X.e X.R X.s X.m X.args X.below X.meth X.c H locs X.k X.n 0 0 (F0 X.m pc ls st) rest (bb_Q X.D X.cs v wc wc' H.size av) (va_A wc H.size))
    (k : bb_Z X nL ws' (pc + 3) lv (v.toList ++ rest)) : bb_Z X nL ws pc lv st := by
  obtain ⟨wr, h1, h2⟩ := hcut
  intro H locs ls hP hD hS hl
  have hP := bb_P_perm h1 hP
  have hD := bb_D_perm h1 hD
  have eR : (List.range wr.length).map (fun i => (wr ++ wc)[i]?) = wr.map some := by
    apply List.ext_getElem?
    intro i
    by_cases h : i < wr.length
    · simp [h, List.getElem?_append_left h]
    · simp [h]
  have eC : ((List.range wc.length).map (fun i => wr.length + i)).map (fun i => (wr ++ wc)[i]?) = wc.map some := by
    apply List.ext_getElem?
    intro i
    by_cases h : i < wc.length
    · simp [h]
    · simp [h]
  have nR : va_nd (List.range wr.length) = true := bb_nd_of _ List.nodup_range
  have nC : va_nd ((List.range wc.length).map (fun i => wr.length + i)) = true := by
    refine bb_nd_of _ ?_
    rw [List.nodup_iff_pairwise_ne, List.pairwise_map]
    exact (List.nodup_range (n := wc.length)).imp (fun hab e => hab (by omega))
  have hdis : ∀ i ∈ List.range wr.length, i ∉ (List.range wc.length).map (fun i => wr.length + i) := fun i hi h => by
    obtain ⟨j, -, rfl⟩ := List.mem_map.mp h
    have := List.mem_range.mp hi
    omega
  have hPc : va_P X.D bb_CL wc H := fun k q hk => by
    obtain ⟨i, hi⟩ := List.mem_iff_getElem?.mp (List.mem_append_right wr (List.mem_of_getElem? hk))
    exact hP i q hi
  have hDc := hD.sub (ws' := wc) _ nC eC
  have hF := va_free (wc := wc) hD hS C.2.2.2.2.2.2.2.1 _ eC
  refine bb_call (hr H locs ls hPc (hDc.weaken (fun _ _ _ _ => trivial)) hl hS hF) hS hF (fun H1 locs1 hP1 hD1 hk1 hS1 => ?_)
  obtain ⟨hP2, hD2⟩ := va_join (wr := wr) (w1 := wc') hP hD _ _ eC eR nR hdis hk1 hF hP1 hD1
  exact k H1 locs1 ls (bb_P_perm h2 hP2) (bb_D_perm h2 hD2) hS1 hl
theorem bb_cwV {index n d maxL : Nat} {y : MethodName} {code : ByteArray} {ret : Option FieldType} {Cn : String} (C : bb_C X own cc nL) (hR : bb_r X (d + 1)) (hcl : bb_cv Cn y code maxL ret n) (hl : Cond.methodLink own index y ∈ bb_tb) : CallW X.R X.s X.args own Cn index y code maxL ret (.code y code maxL ret :: bb_tb) { frames := d, cells := 0, slots := 0, locals := 40 * d } 0 0 n := by
  obtain ⟨i1, i2, i3, i4, i5, i6⟩ := hcl
  have hr8 := hR.2
  exact cwV n C.2.2.2.2.1 (bb_goodIn (fun w hw => by
      rcases List.mem_append.mp hw with h | h
      · rcases List.mem_cons.mp h with rfl | h
        · exact hl
        · rcases List.mem_cons.mp h with rfl | h
          · exact i1
          · rcases List.mem_cons.mp h with rfl | h
            · exact i2
            · rw [List.mem_singleton.mp h]
              exact i3
      · rcases List.mem_cons.mp h with rfl | h
        · exact i4
        · exact h)) rfl rfl rfl i5 ⟨hR.1, by show 8 + (maxL + 11) + 40 * d ≤ X.R.locals; omega⟩
/-- a method of the text itself -/
theorem z_callT {index n d maxL : Nat} {y : MethodName} {code : ByteArray} {ret : Option FieldType} {As st : List Value} {r : Int32} (C : bb_C X own cc nL) (hE : bb_S a b X.A X.s X.s.heap) (hR : bb_r X (d + 1)) (hM : bb_MS a b X.l y code maxL ret d X.D X.cs (.ref a :: As) (some (.int r)) [] []) (hcl : bb_cv RJ0 y code maxL ret n) (hl : Cond.methodLink own index y ∈ bb_tb) (hn : As.length = n) (hst : st = As.reverse ++ .ref a :: rest) (hcat : (rest.map fun v => v.category).sum ≤ 8) (hd : decode cc pc = .ok (.invokevirtual index, 3)) (k : bb_Z X nL ws (pc + 3) lv (.int r :: rest)) : bb_Z X nL ws pc lv st := by
  refine z_behindS (av := (Value.ref a :: As).toArray) (v := some (.int r)) C (bb_cut_none ws) (fun H locs ls hPc hDc hl9 hS hF => ?_) k
  have hrc : ∃ cell : Cell, H[a]? = some cell ∧ cell.vm.isStatics = false ∧ X.s.vm.findClass RJ0 = some cell.cls := by
    obtain ⟨cell, h1, h2, h3, -⟩ := hE.2.1.kept hS.2.1
    exact ⟨cell, h1, h2, h3⟩
  exact va_runV ⟨C.1, C.2.1, C.2.2.1, C.2.2.2.1, C.2.2.2.2.1⟩ (hM H.size) (bb_cwV C hR hcl hl) ⟨bb_blindS, hrc, fun U hU hW => ⟨⟨rfl, by rw [hU], by rw [hU]; exact hPc, va_K.moved hW.alike C.2.2.2.2.2.1, hDc⟩, hE.go hS hF hU hW⟩⟩ rfl hn hl9.1 hst (lv_room hcat) hd ⟨C.2.2.2.2.2.2.2.2.1, C.2.2.2.2.2.2.2.2.2⟩
theorem z_callVS {index n d maxL b0 ci q0 : Nat} {y : MethodName} {code : ByteArray} {ret : Option FieldType} {ws' wc wc' : va_W} {As st : List Value} {r : Int32} {Cn : String} {T : u_T} {N : Nat} {fs : List Value} (C : bb_C X own cc nL) (hE : bb_S a b X.A X.s X.s.heap) (hR : bb_r X (d + 1)) (hM : bb_MS a b X.l y code maxL ret d X.D X.cs (.ref b0 :: As) (some (.int r)) wc wc') (hcut : bb_cut ws wc ws' wc') (hcl : bb_cv Cn y code maxL ret n) (hl : Cond.methodLink own index y ∈ bb_tb) (hc : bb_CL[ci]? = some (Cn, T, N)) (he : wc[q0]? = some (b0, .inr (ci, fs))) (hn : As.length = n) (hst : st = As.reverse ++ .ref b0 :: rest) (hcat : (rest.map fun v => v.category).sum ≤ 8) (hd : decode cc pc = .ok (.invokevirtual index, 3)) (k : bb_Z X nL ws' (pc + 3) lv (.int r :: rest)) : bb_Z X nL ws pc lv st := by
  refine z_behindS (av := (Value.ref b0 :: As).toArray) (v := some (.int r)) C hcut (fun H locs ls hPc hDc hl9 hS hF => ?_) k
  exact va_runV ⟨C.1, C.2.1, C.2.2.1, C.2.2.2.1, C.2.2.2.2.1⟩ (hM H.size) (bb_cwV C hR hcl hl) ⟨bb_blindS, va_recv C.2.2.2.2.2.1 hPc hc he, fun U hU hW => ⟨⟨rfl, by rw [hU], by rw [hU]; exact hPc, va_K.moved hW.alike C.2.2.2.2.2.1, hDc⟩, hE.go hS hF hU hW⟩⟩ rfl hn hl9.1 hst (lv_room hcat) hd ⟨C.2.2.2.2.2.2.2.2.1, C.2.2.2.2.2.2.2.2.2⟩
theorem z_callSS {index n d maxL : Nat} {y : MethodName} {code : ByteArray} {ret : Option FieldType} {As st : List Value} {r : Int32} {Cn : String} (C : bb_C X own cc nL) (hE : bb_S a b X.A X.s X.s.heap) (hR : bb_r X (d + 1)) (hM : bb_MS a b X.l y code maxL ret d X.D X.cs As (some (.int r)) [] []) (hcl : bb_cS Cn y code maxL ret n) (hl : Cond.methodLink own index y ∈ bb_tb) (hn : As.length = n) (hst : st = As.reverse ++ rest) (hcat : (rest.map fun v => v.category).sum ≤ 8) (hd : decode cc pc = .ok (.invokestatic index, 3)) (k : bb_Z X nL ws (pc + 3) lv (.int r :: rest)) : bb_Z X nL ws pc lv st := by
  obtain ⟨i1, i3, i4, ⟨i5, i7⟩, i6⟩ := hcl
  have hr8 := hR.2
  have hcb : CallB X.R X.s X.args own index y code maxL ret (.code y code maxL ret :: bb_tb) { frames := d, cells := 0, slots := 0, locals := 40 * d } 0 0 n :=
    callB_of n C.2.2.2.2.1 (bb_goodIn (fun w hw => by
      rcases List.mem_cons.mp hw with rfl | h
      · exact i4
      · exact h)) rfl rfl rfl (by rw [i5]; exact C.2.2.2.2.1 _ i3) (C.2.2.2.2.1 _ hl) i7 ⟨hR.1, by show 8 + (maxL + 11) + 40 * d ≤ X.R.locals; omega⟩
  refine z_behindS (av := As.toArray) (v := some (.int r)) C (bb_cut_none ws) (fun H locs ls hPc hDc hl9 hS hF => ?_) k
  exact va_runS ⟨C.1, C.2.1, C.2.2.1, C.2.2.2.1, C.2.2.2.2.1⟩ (hM H.size) ⟨hcb, C.2.2.2.2.1 _ i1⟩ ⟨bb_blindS, fun U hU hW => ⟨⟨rfl, by rw [hU], by rw [hU]; exact hPc, va_K.moved hW.alike C.2.2.2.2.2.1, hDc⟩, hE.go hS hF hU hW⟩⟩ rfl hn hl9.1 hst (lv_room hcat) hd ⟨C.2.2.2.2.2.2.2.2.1, C.2.2.2.2.2.2.2.2.2⟩
end ZS
