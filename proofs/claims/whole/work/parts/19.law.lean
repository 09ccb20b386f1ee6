/-! ===== the law's end, its script ===== -/
/-! THE CLAIM OUT OF ONE WALK OF THE LAW'S BODY. Your part is whole_start (and what it stands on); all else here is the same for every law, but numbers. -/
def R_law : String := "BlindBuffLaw"
def lw_P (b : Addr) (xs : List Int32) (args : Array Value) (s : State) : Prop := args = #[.ref b] ∧ s.IntsAt b xs ∧ xs.length ≤ 384 ∧ (Jvm.Cond.and given_1 narrow_1).before args s = true
def lw_Q (_ : Array Value) (s : State) (o : Outcome) (t : State) : Prop := o = .returned (some (.int 1)) ∧ Framed s o t [] 600000 7302249
def lw_Z (below : List Frame) (a : Array Value) (s : State) : State → Prop := fun t => ∃ o, t.status = .running ∧ Ended t below o ∧ lw_Q a s o t
/-- the law's own end, with 1 on the stack, nothing written that was there before, its room as the claim has it -/
theorem lw_ret {p : Program} {l : Launch} {e : Env} {s : State} {m : MethodId} {below : List Frame} {meth : Method} {c : Code} {b : Nat} (hx : p.tables.exec = Jvm.exec) (hb : c.code = code) (hr : meth.sig.returnType = ret) (hlocks : meth.locks = false) {pc : Nat} {H : Heap} {ls : Array Slot} (hdg : decode code pc = .ok (.ireturn, 1)) : W p l e room_1 s m #[Value.ref b] below meth c H [] 600000 7302249 (lw_Z below #[Value.ref b] s) (F0 m pc ls [.int 1]) := by
  intro T hT X
  obtain ⟨fs, hret, hrun, hended, hW, hframe⟩ := X.leave (v := some (.int 1)) (hlocks := hlocks) (fun h => by rw [hr] at h; cases h)
  have hmeth' : T.vm.method? m = some meth := X.method'
  refine ⟨T.setFrames fs, ?_, .returned (some (.int 1)), hrun, hended, rfl, ⟨_, rfl⟩, hW, hframe⟩
  jvm_step X.here [X.here.top, hx, hb, hdg, hmeth', hr, ret, narrow_b1]
  (try refine ⟨rfl, ?_⟩); (try refine ⟨rfl, ?_⟩)
  first | (intro acts; rw [hret _ acts rfl rfl rfl]) | rw [hret _ _ rfl rfl rfl]
  exact Steps.refl _
/-- what holds at the law's entry: the machine, the code, the tables' words (any of lw_tbl by 'hts w (by decide +kernel)'), the script of L ints xs at the cell b, what the Statement gives of the start (any of its parts by flat_of_before) -/
def lw_At (p : Program) (s : State) (m : MethodId) (meth : Method) (c : Code) (b L : Nat) (xs : Nat → Int32) : Prop :=
  p.tables.exec = Jvm.exec ∧ c.code = code ∧ meth.sig.returnType = ret ∧ c.maxLocals = 4 ∧ s.vm.findClass R_law = some m.cls ∧ (∀ w ∈ lw_tbl, w.before #[Value.ref b] s = true) ∧ va_X b L xs s s.heap ∧ b < s.heap.size ∧ meth.locks = false ∧ (Jvm.Cond.and given_1 narrow_1).before #[Value.ref b] s = true
def bb_L (X : bb_X) : Prop := ∃ b : Nat, X.args = #[Value.ref b] ∧ X.R = room_1 ∧ X.A = (fun q => X.s.heap.size ≤ q) ∧ X.k ≤ 600000 ∧ X.n ≤ 7302249 ∧ X.meth.sig.returnType = ret ∧ X.Q = lw_Z X.below X.args X.s
def bb_scr (X : bb_X) (c0 L : Nat) (xs : Nat → Int32) : Prop := va_X c0 L xs X.s X.s.heap ∧ c0 < X.s.heap.size ∧ ¬ X.A c0
section ZL
variable {X : bb_X} {own : String} {cc : ByteArray} {nL : Nat} {ws : va_W} {pc : Nat} {lv : List (Nat × Value)} {rest : List Value}
theorem z_sld (C : bb_C X own cc nL) {c0 L : Nat} {xs : Nat → Int32} (hX : bb_scr X c0 L xs) {i : Int32} (hin : vp_in i L) (hd : decode cc pc = .ok (.iaload, 1)) (k : bb_Z X nL ws (pc + 1) lv (.int (xs i.toNatClampNeg) :: rest)) : bb_Z X nL ws pc lv (.int i :: .ref c0 :: rest) := fun H locs ls hP hD hS hl => va_sld C.1 C.2.1 hX.1 hX.2.1 hX.2.2 hS hin hd (k H locs ls hP hD hS hl)
theorem z_slen (C : bb_C X own cc nL) {c0 L : Nat} {xs : Nat → Int32} (hX : bb_scr X c0 L xs) (hd : decode cc pc = .ok (.arraylength, 1)) (k : bb_Z X nL ws (pc + 1) lv (.int (Int32.ofNat L) :: rest)) : bb_Z X nL ws pc lv (.ref c0 :: rest) := fun H locs ls hP hD hS hl => va_slen C.1 C.2.1 hX.1 hX.2.1 hX.2.2 hS hd (k H locs ls hP hD hS hl)
theorem z_lret (C : bb_C X own code nL) (h : bb_L X) (hd : decode code pc = .ok (.ireturn, 1)) : bb_Z X nL ws pc lv [.int 1] := by
  obtain ⟨b, ha, hR, hA, hk, hn, hr, hQ⟩ := h
  intro H locs ls hP hD hS hl
  rw [hA] at hS
  refine va_forget (fun q hq => hS.2.2 q hq) ?_
  refine W.widen hk hn ?_
  rw [hQ, hR, ha]
  exact lw_ret C.1 C.2.1 hr C.2.2.2.2.2.2.1 hd
end ZL
noncomputable def F_L_law_1141 (L : Nat) (xs : Nat → Int32) (k18 : bb_H → bb_O → Int32 → Option Int32) (s0 : bb_H) (s1 : bb_O) (x3 : Int32) : Option Int32 := k18 s0 s1 (x3 + 6)
set_option maxHeartbeats 4000000 in
set_option maxRecDepth 100000 in
theorem B_L_law_1141 {X : bb_X} (C : bb_C X RL cL_law 4) (hR : bb_r X 8) (hr : X.meth.sig.returnType = (some .boolean)) (h : Nat → Nat → Nat) (g : Nat → Nat) (a b : Nat) (hE : bb_S a b X.A X.s X.s.heap) {c0 L : Nat} {xs : Nat → Int32} (hX : bb_scr X c0 L xs) {z : Int32} (R : bb_L X ∧ z = 1) {k18 : bb_H → bb_O → Int32 → Option Int32} (hk18 : ∀ (s0 : bb_H) (s1 : bb_O) (x3 : Int32), k18 s0 s1 x3 = some z → bb_Z X 4 (wX4 X.cs h s0 ++ wX5 X.cs g s1) 18 [(0, .ref c0), (1, .ref (h 5 0)), (2, .ref (g 0)), (3, .int x3)] []) {s0 : bb_H} {s1 : bb_O} {x3 : Int32} (hf : F_L_law_1141 L xs k18 s0 s1 x3 = some z) : bb_Z X 4 (wX4 X.cs h s0 ++ wX5 X.cs g s1) 1141 [(0, .ref c0), (1, .ref (h 5 0)), (2, .ref (g 0)), (3, .int x3)] [] := by
  refine z_iinc (pc := 1141) (lv' := [(3, .int (x3 + 6)), (0, .ref c0), (1, .ref (h 5 0)), (2, .ref (g 0))]) C (x3 + 6) 3 dL_law_1141 rfl rfl (by decide) rfl ?_
  refine z_goto (pc := 1144) C 18 dL_law_1144 (by decide) ?_
  refine z_lv [1, 2, 3, 0] rfl ?_
  exact hk18 _ _ _ hf
noncomputable def G_L_law_18 (L : Nat) (xs : Nat → Int32) (k18 : bb_H → bb_O → Int32 → Option Int32) (s0 : bb_H) (s1 : bb_O) (x3 : Int32) : Option Int32 := if ((Int32.ofNat L) - ((6 : Int32))) < x3 then (some 1) else (bb_g (vp_in x3 L) (if ((xs x3.toNatClampNeg) &&& ((31 : Int32))) = 0 then (bb_g (vp_in (x3 + ((1 : Int32))) L) (bb_g (vp_in (x3 + ((2 : Int32))) L) ((F_X4_streets_0 s0 (xs (x3 + ((1 : Int32))).toNatClampNeg) (xs (x3 + ((2 : Int32))).toNatClampNeg)).bind (fun q6 => bb_g (vp_in (x3 + ((1 : Int32))) L) (bb_g (vp_in (x3 + ((2 : Int32))) L) ((F_X5_streets_0 s1 (xs (x3 + ((1 : Int32))).toNatClampNeg) (xs (x3 + ((2 : Int32))).toNatClampNeg)).bind (fun q9 => if q6.1 = q9.1 then (F_L_law_1141 L xs k18 q6.2 q9.2 x3) else (some 0)))))))) else (if ((xs x3.toNatClampNeg) &&& ((31 : Int32))) = 1 then (bb_g (vp_in (x3 + ((1 : Int32))) L) (bb_g (vp_in (x3 + ((2 : Int32))) L) (bb_g (vp_in (x3 + ((3 : Int32))) L) (bb_g (vp_in (x3 + ((4 : Int32))) L) ((F_X4_person_0 s0 (xs (x3 + ((1 : Int32))).toNatClampNeg) (xs (x3 + ((2 : Int32))).toNatClampNeg) (xs (x3 + ((3 : Int32))).toNatClampNeg) (xs (x3 + ((4 : Int32))).toNatClampNeg)).bind (fun q16 => bb_g (vp_in (x3 + ((1 : Int32))) L) (bb_g (vp_in (x3 + ((2 : Int32))) L) (bb_g (vp_in (x3 + ((3 : Int32))) L) (bb_g (vp_in (x3 + ((4 : Int32))) L) ((F_X5_person_0 s1 (xs (x3 + ((1 : Int32))).toNatClampNeg) (xs (x3 + ((2 : Int32))).toNatClampNeg) (xs (x3 + ((3 : Int32))).toNatClampNeg) (xs (x3 + ((4 : Int32))).toNatClampNeg)).bind (fun q21 => if q16.1 = q21.1 then (F_L_law_1141 L xs k18 q16.2 q21.2 x3) else (some 0)))))))))))) else (if ((xs x3.toNatClampNeg) &&& ((31 : Int32))) = 2 then (bb_g (vp_in (x3 + ((1 : Int32))) L) (bb_g (vp_in (x3 + ((2 : Int32))) L) ((F_X4_of_0 s0 (xs (x3 + ((1 : Int32))).toNatClampNeg) (xs (x3 + ((2 : Int32))).toNatClampNeg)).bind (fun q26 => bb_g (vp_in (x3 + ((1 : Int32))) L) (bb_g (vp_in (x3 + ((2 : Int32))) L) ((F_X5_of_0 s1 (xs (x3 + ((1 : Int32))).toNatClampNeg) (xs (x3 + ((2 : Int32))).toNatClampNeg)).bind (fun q29 => if q26 = q29 then (F_L_law_1141 L xs k18 s0 s1 x3) else (some 0)))))))) else (if ((xs x3.toNatClampNeg) &&& ((31 : Int32))) = 3 then (bb_g (vp_in (x3 + ((1 : Int32))) L) (bb_g (vp_in (x3 + ((2 : Int32))) L) (bb_g (vp_in (x3 + ((3 : Int32))) L) ((F_X4_rule_0 s0 (xs (x3 + ((1 : Int32))).toNatClampNeg) (xs (x3 + ((2 : Int32))).toNatClampNeg) (xs (x3 + ((3 : Int32))).toNatClampNeg)).bind (fun q35 => bb_g (vp_in (x3 + ((1 : Int32))) L) (bb_g (vp_in (x3 + ((2 : Int32))) L) (bb_g (vp_in (x3 + ((3 : Int32))) L) ((F_X5_rule_0 s1 (xs (x3 + ((1 : Int32))).toNatClampNeg) (xs (x3 + ((2 : Int32))).toNatClampNeg) (xs (x3 + ((3 : Int32))).toNatClampNeg)).bind (fun q39 => if q35.1 = q39.1 then (F_L_law_1141 L xs k18 q35.2 q39.2 x3) else (some 0)))))))))) else (if ((xs x3.toNatClampNeg) &&& ((31 : Int32))) = 4 then (bb_g (vp_in (x3 + ((1 : Int32))) L) ((F_X4_type_0 s0 (xs (x3 + ((1 : Int32))).toNatClampNeg)).bind (fun q43 => bb_g (vp_in (x3 + ((1 : Int32))) L) ((F_X5_type_0 s1 (xs (x3 + ((1 : Int32))).toNatClampNeg)).bind (fun q45 => if q43.1 = q45.1 then (F_L_law_1141 L xs k18 q43.2 q45.2 x3) else (some 0)))))) else (if ((xs x3.toNatClampNeg) &&& ((31 : Int32))) = 5 then ((F_X4_city_0 s0).bind (fun q48 => (F_X5_city_0 s1).bind (fun q49 => if q48.1 = q49.1 then (F_L_law_1141 L xs k18 q48.2 q49.2 x3) else (some 0)))) else (if ((xs x3.toNatClampNeg) &&& ((31 : Int32))) = 6 then (bb_g (vp_in (x3 + ((1 : Int32))) L) ((F_X4_count_0 s0 (xs (x3 + ((1 : Int32))).toNatClampNeg)).bind (fun q53 => bb_g (vp_in (x3 + ((1 : Int32))) L) ((F_X5_count_0 s1 (xs (x3 + ((1 : Int32))).toNatClampNeg)).bind (fun q55 => if q53 = q55 then (F_L_law_1141 L xs k18 s0 s1 x3) else (some 0)))))) else (if ((xs x3.toNatClampNeg) &&& ((31 : Int32))) = 7 then (bb_g (vp_in (x3 + ((1 : Int32))) L) ((F_X4_minutes_0 s0 (xs (x3 + ((1 : Int32))).toNatClampNeg)).bind (fun q59 => bb_g (vp_in (x3 + ((1 : Int32))) L) ((F_X5_minutes_0 s1 (xs (x3 + ((1 : Int32))).toNatClampNeg)).bind (fun q61 => if q59.1 = q61.1 then (F_L_law_1141 L xs k18 q59.2 q61.2 x3) else (some 0)))))) else (if ((xs x3.toNatClampNeg) &&& ((31 : Int32))) = 8 then (bb_g (vp_in (x3 + ((1 : Int32))) L) (bb_g (vp_in (x3 + ((2 : Int32))) L) ((F_X4_walk_0 s0 (xs (x3 + ((1 : Int32))).toNatClampNeg) (xs (x3 + ((2 : Int32))).toNatClampNeg)).bind (fun q66 => bb_g (vp_in (x3 + ((1 : Int32))) L) (bb_g (vp_in (x3 + ((2 : Int32))) L) ((F_X5_walk_0 s1 (xs (x3 + ((1 : Int32))).toNatClampNeg) (xs (x3 + ((2 : Int32))).toNatClampNeg)).bind (fun q69 => if q66.1 = q69.1 then (F_L_law_1141 L xs k18 q66.2 q69.2 x3) else (some 0)))))))) else (if ((xs x3.toNatClampNeg) &&& ((31 : Int32))) = 9 then (bb_g (vp_in (x3 + ((1 : Int32))) L) ((F_X4_free_0 s0 (xs (x3 + ((1 : Int32))).toNatClampNeg)).bind (fun q73 => bb_g (vp_in (x3 + ((1 : Int32))) L) ((F_X5_free_0 s1 (xs (x3 + ((1 : Int32))).toNatClampNeg)).bind (fun q75 => if q73.1 = q75.1 then (F_L_law_1141 L xs k18 q73.2 q75.2 x3) else (some 0)))))) else (if ((xs x3.toNatClampNeg) &&& ((31 : Int32))) = 10 then (bb_g (vp_in (x3 + ((1 : Int32))) L) ((F_X4_drift_0 s0 (xs (x3 + ((1 : Int32))).toNatClampNeg)).bind (fun q79 => bb_g (vp_in (x3 + ((1 : Int32))) L) ((F_X5_drift_0 s1 (xs (x3 + ((1 : Int32))).toNatClampNeg)).bind (fun q81 => if q79.1 = q81.1 then (F_L_law_1141 L xs k18 q79.2 q81.2 x3) else (some 0)))))) else (if ((xs x3.toNatClampNeg) &&& ((31 : Int32))) = 11 then ((F_X4_undo_0 s0).bind (fun q84 => (F_X5_undo_0 s1).bind (fun q85 => if q84.1 = q85.1 then (F_L_law_1141 L xs k18 q84.2 q85.2 x3) else (some 0)))) else (if ((xs x3.toNatClampNeg) &&& ((31 : Int32))) = 12 then (bb_g (vp_in (x3 + ((1 : Int32))) L) ((F_X4_seed_0 s0 (xs (x3 + ((1 : Int32))).toNatClampNeg)).bind (fun q89 => bb_g (vp_in (x3 + ((1 : Int32))) L) ((F_X5_seed_0 s1 (xs (x3 + ((1 : Int32))).toNatClampNeg)).bind (fun q91 => if q89.1 = q91.1 then (F_L_law_1141 L xs k18 q89.2 q91.2 x3) else (some 0)))))) else (if ((xs x3.toNatClampNeg) &&& ((31 : Int32))) = 13 then (bb_g (vp_in (x3 + ((1 : Int32))) L) (bb_g (vp_in (x3 + ((2 : Int32))) L) ((F_X4_ahead_0 s0 (xs (x3 + ((1 : Int32))).toNatClampNeg) (xs (x3 + ((2 : Int32))).toNatClampNeg)).bind (fun q96 => bb_g (vp_in (x3 + ((1 : Int32))) L) (bb_g (vp_in (x3 + ((2 : Int32))) L) ((F_X5_ahead_0 s1 (xs (x3 + ((1 : Int32))).toNatClampNeg) (xs (x3 + ((2 : Int32))).toNatClampNeg)).bind (fun q99 => if q96.1 = q99.1 then (F_L_law_1141 L xs k18 q96.2 q99.2 x3) else (some 0)))))))) else (if ((xs x3.toNatClampNeg) &&& ((31 : Int32))) = 14 then (bb_g (vp_in (x3 + ((1 : Int32))) L) ((F_X4_next_0 s0 (xs (x3 + ((1 : Int32))).toNatClampNeg)).bind (fun q103 => bb_g (vp_in (x3 + ((1 : Int32))) L) ((F_X5_next_0 s1 (xs (x3 + ((1 : Int32))).toNatClampNeg)).bind (fun q105 => if q103.1 = q105.1 then (F_L_law_1141 L xs k18 q103.2 q105.2 x3) else (some 0)))))) else (if ((xs x3.toNatClampNeg) &&& ((31 : Int32))) = 15 then (bb_g (vp_in (x3 + ((1 : Int32))) L) (bb_g (vp_in (x3 + ((2 : Int32))) L) ((F_X4_stand_0 s0 (xs (x3 + ((1 : Int32))).toNatClampNeg) (xs (x3 + ((2 : Int32))).toNatClampNeg)).bind (fun q110 => bb_g (vp_in (x3 + ((1 : Int32))) L) (bb_g (vp_in (x3 + ((2 : Int32))) L) ((F_X5_stand_0 s1 (xs (x3 + ((1 : Int32))).toNatClampNeg) (xs (x3 + ((2 : Int32))).toNatClampNeg)).bind (fun q113 => if q110.1 = q113.1 then (F_L_law_1141 L xs k18 q110.2 q113.2 x3) else (some 0)))))))) else (if ((xs x3.toNatClampNeg) &&& ((31 : Int32))) = 16 then (bb_g (vp_in (x3 + ((1 : Int32))) L) (bb_g (vp_in (x3 + ((2 : Int32))) L) ((F_X4_hush_0 s0 (xs (x3 + ((1 : Int32))).toNatClampNeg) (xs (x3 + ((2 : Int32))).toNatClampNeg)).bind (fun q118 => bb_g (vp_in (x3 + ((1 : Int32))) L) (bb_g (vp_in (x3 + ((2 : Int32))) L) ((F_X5_hush_0 s1 (xs (x3 + ((1 : Int32))).toNatClampNeg) (xs (x3 + ((2 : Int32))).toNatClampNeg)).bind (fun q121 => if q118.1 = q121.1 then (F_L_law_1141 L xs k18 q118.2 q121.2 x3) else (some 0)))))))) else (if ((xs x3.toNatClampNeg) &&& ((31 : Int32))) = 17 then (bb_g (vp_in (x3 + ((1 : Int32))) L) (bb_g (vp_in (x3 + ((2 : Int32))) L) ((F_X4_mask_0 s0 (xs (x3 + ((1 : Int32))).toNatClampNeg) (xs (x3 + ((2 : Int32))).toNatClampNeg)).bind (fun q126 => bb_g (vp_in (x3 + ((1 : Int32))) L) (bb_g (vp_in (x3 + ((2 : Int32))) L) ((F_X5_mask_0 s1 (xs (x3 + ((1 : Int32))).toNatClampNeg) (xs (x3 + ((2 : Int32))).toNatClampNeg)).bind (fun q129 => if q126 = q129 then (F_L_law_1141 L xs k18 s0 s1 x3) else (some 0)))))))) else (if ((xs x3.toNatClampNeg) &&& ((31 : Int32))) = 18 then (bb_g (vp_in (x3 + ((1 : Int32))) L) (bb_g (vp_in (x3 + ((2 : Int32))) L) ((F_X4_alike_0 s0 (xs (x3 + ((1 : Int32))).toNatClampNeg) (xs (x3 + ((2 : Int32))).toNatClampNeg)).bind (fun q134 => bb_g (vp_in (x3 + ((1 : Int32))) L) (bb_g (vp_in (x3 + ((2 : Int32))) L) ((F_X5_alike_0 s1 (xs (x3 + ((1 : Int32))).toNatClampNeg) (xs (x3 + ((2 : Int32))).toNatClampNeg)).bind (fun q137 => if q134 = q137 then (F_L_law_1141 L xs k18 s0 s1 x3) else (some 0)))))))) else (if ((xs x3.toNatClampNeg) &&& ((31 : Int32))) = 19 then (bb_g (vp_in (x3 + ((1 : Int32))) L) (bb_g (vp_in (x3 + ((2 : Int32))) L) ((F_X4_turned_0 s0 (xs (x3 + ((1 : Int32))).toNatClampNeg) (xs (x3 + ((2 : Int32))).toNatClampNeg)).bind (fun q142 => bb_g (vp_in (x3 + ((1 : Int32))) L) (bb_g (vp_in (x3 + ((2 : Int32))) L) ((F_X5_turned_0 s1 (xs (x3 + ((1 : Int32))).toNatClampNeg) (xs (x3 + ((2 : Int32))).toNatClampNeg)).bind (fun q145 => if q142.1 = q145.1 then (F_L_law_1141 L xs k18 q142.2 q145.2 x3) else (some 0)))))))) else (if ((xs x3.toNatClampNeg) &&& ((31 : Int32))) = 20 then (bb_g (vp_in (x3 + ((1 : Int32))) L) (bb_g (vp_in (x3 + ((2 : Int32))) L) (bb_g (vp_in (x3 + ((3 : Int32))) L) ((F_X4_luck_0 s0 (xs (x3 + ((1 : Int32))).toNatClampNeg) (xs (x3 + ((2 : Int32))).toNatClampNeg) (xs (x3 + ((3 : Int32))).toNatClampNeg)).bind (fun q151 => bb_g (vp_in (x3 + ((1 : Int32))) L) (bb_g (vp_in (x3 + ((2 : Int32))) L) (bb_g (vp_in (x3 + ((3 : Int32))) L) ((F_X5_luck_0 s1 (xs (x3 + ((1 : Int32))).toNatClampNeg) (xs (x3 + ((2 : Int32))).toNatClampNeg) (xs (x3 + ((3 : Int32))).toNatClampNeg)).bind (fun q155 => if q151 = q155 then (F_L_law_1141 L xs k18 s0 s1 x3) else (some 0)))))))))) else (if ((xs x3.toNatClampNeg) &&& ((31 : Int32))) = 21 then ((F_X4_image_0 s0).bind (fun q158 => (F_X5_image_0 s1).bind (fun q159 => if q158.1 = q159.1 then (F_L_law_1141 L xs k18 q158.2 q159.2 x3) else (some 0)))) else (if ((xs x3.toNatClampNeg) &&& ((31 : Int32))) = 22 then ((F_X4_restore_0 s0).bind (fun q162 => (F_X5_restore_0 s1).bind (fun q163 => if q162.1 = q163.1 then (F_L_law_1141 L xs k18 q162.2 q163.2 x3) else (some 0)))) else (if ((xs x3.toNatClampNeg) &&& ((31 : Int32))) = 23 then (bb_g (vp_in (x3 + ((1 : Int32))) L) (bb_g (vp_in (x3 + ((2 : Int32))) L) (bb_g (vp_in (x3 + ((3 : Int32))) L) (bb_g (vp_in (x3 + ((4 : Int32))) L) (bb_g (vp_in (x3 + ((5 : Int32))) L) ((F_X4_seen_0 s0 (xs (x3 + ((1 : Int32))).toNatClampNeg) (xs (x3 + ((2 : Int32))).toNatClampNeg) (xs (x3 + ((3 : Int32))).toNatClampNeg) (xs (x3 + ((4 : Int32))).toNatClampNeg) (xs (x3 + ((5 : Int32))).toNatClampNeg)).bind (fun q171 => bb_g (vp_in (x3 + ((1 : Int32))) L) (bb_g (vp_in (x3 + ((2 : Int32))) L) (bb_g (vp_in (x3 + ((3 : Int32))) L) (bb_g (vp_in (x3 + ((4 : Int32))) L) (bb_g (vp_in (x3 + ((5 : Int32))) L) ((F_X5_seen_0 s1 (xs (x3 + ((1 : Int32))).toNatClampNeg) (xs (x3 + ((2 : Int32))).toNatClampNeg) (xs (x3 + ((3 : Int32))).toNatClampNeg) (xs (x3 + ((4 : Int32))).toNatClampNeg) (xs (x3 + ((5 : Int32))).toNatClampNeg)).bind (fun q177 => if q171.1 = q177.1 then (F_L_law_1141 L xs k18 q171.2 q177.2 x3) else (some 0)))))))))))))) else (if ((xs x3.toNatClampNeg) &&& ((31 : Int32))) = 24 then (bb_g (vp_in (x3 + ((1 : Int32))) L) (bb_g (vp_in (x3 + ((2 : Int32))) L) (bb_g (vp_in (x3 + ((3 : Int32))) L) (bb_g (vp_in (x3 + ((4 : Int32))) L) ((F_X4_film_0 s0 (xs (x3 + ((1 : Int32))).toNatClampNeg) (xs (x3 + ((2 : Int32))).toNatClampNeg) (xs (x3 + ((3 : Int32))).toNatClampNeg) (xs (x3 + ((4 : Int32))).toNatClampNeg)).bind (fun q184 => bb_g (vp_in (x3 + ((1 : Int32))) L) (bb_g (vp_in (x3 + ((2 : Int32))) L) (bb_g (vp_in (x3 + ((3 : Int32))) L) (bb_g (vp_in (x3 + ((4 : Int32))) L) ((F_X5_film_0 s1 (xs (x3 + ((1 : Int32))).toNatClampNeg) (xs (x3 + ((2 : Int32))).toNatClampNeg) (xs (x3 + ((3 : Int32))).toNatClampNeg) (xs (x3 + ((4 : Int32))).toNatClampNeg)).bind (fun q189 => if q184.1 = q189.1 then (F_L_law_1141 L xs k18 q184.2 q189.2 x3) else (some 0)))))))))))) else (if ((xs x3.toNatClampNeg) &&& ((31 : Int32))) = 25 then (bb_g (vp_in (x3 + ((1 : Int32))) L) (bb_g (vp_in (x3 + ((2 : Int32))) L) (bb_g (vp_in (x3 + ((3 : Int32))) L) ((F_X4_sheet_0 s0 (xs (x3 + ((1 : Int32))).toNatClampNeg) (xs (x3 + ((2 : Int32))).toNatClampNeg) (xs (x3 + ((3 : Int32))).toNatClampNeg)).bind (fun q195 => bb_g (vp_in (x3 + ((1 : Int32))) L) (bb_g (vp_in (x3 + ((2 : Int32))) L) (bb_g (vp_in (x3 + ((3 : Int32))) L) ((F_X5_sheet_0 s1 (xs (x3 + ((1 : Int32))).toNatClampNeg) (xs (x3 + ((2 : Int32))).toNatClampNeg) (xs (x3 + ((3 : Int32))).toNatClampNeg)).bind (fun q199 => if q195.1 = q199.1 then (F_L_law_1141 L xs k18 q195.2 q199.2 x3) else (some 0)))))))))) else (if ((xs x3.toNatClampNeg) &&& ((31 : Int32))) = 26 then (bb_g (vp_in (x3 + ((1 : Int32))) L) ((F_X4_drop_0 s0 (xs (x3 + ((1 : Int32))).toNatClampNeg)).bind (fun q203 => bb_g (vp_in (x3 + ((1 : Int32))) L) ((F_X5_drop_0 s1 (xs (x3 + ((1 : Int32))).toNatClampNeg)).bind (fun q205 => if q203.1 = q205.1 then (F_L_law_1141 L xs k18 q203.2 q205.2 x3) else (some 0)))))) else (if ((xs x3.toNatClampNeg) &&& ((31 : Int32))) = 27 then (bb_g (vp_in (x3 + ((1 : Int32))) L) (bb_g (vp_in (x3 + ((2 : Int32))) L) (bb_g (vp_in (x3 + ((3 : Int32))) L) (bb_g (vp_in (x3 + ((4 : Int32))) L) (bb_g (vp_in (x3 + ((5 : Int32))) L) ((F_X4_item_0 s0 (xs (x3 + ((1 : Int32))).toNatClampNeg) (xs (x3 + ((2 : Int32))).toNatClampNeg) (xs (x3 + ((3 : Int32))).toNatClampNeg) ((((xs (x3 + ((4 : Int32))).toNatClampNeg).toInt64) <<< (((32 : Int32)).toInt64 &&& 63)) ||| (((xs (x3 + ((5 : Int32))).toNatClampNeg).toInt64) &&& ((4294967295 : Int64))))).bind (fun q213 => bb_g (vp_in (x3 + ((1 : Int32))) L) (bb_g (vp_in (x3 + ((2 : Int32))) L) (bb_g (vp_in (x3 + ((3 : Int32))) L) (bb_g (vp_in (x3 + ((4 : Int32))) L) (bb_g (vp_in (x3 + ((5 : Int32))) L) ((F_X5_item_0 s1 (xs (x3 + ((1 : Int32))).toNatClampNeg) (xs (x3 + ((2 : Int32))).toNatClampNeg) (xs (x3 + ((3 : Int32))).toNatClampNeg) ((((xs (x3 + ((4 : Int32))).toNatClampNeg).toInt64) <<< (((32 : Int32)).toInt64 &&& 63)) ||| (((xs (x3 + ((5 : Int32))).toNatClampNeg).toInt64) &&& ((4294967295 : Int64))))).bind (fun q219 => if q213.1 = q219.1 then (F_L_law_1141 L xs k18 q213.2 q219.2 x3) else (some 0)))))))))))))) else (if ((xs x3.toNatClampNeg) &&& ((31 : Int32))) = 28 then (bb_g (vp_in (x3 + ((1 : Int32))) L) (bb_g (vp_in (x3 + ((2 : Int32))) L) (bb_g (vp_in (x3 + ((3 : Int32))) L) (bb_g (vp_in (x3 + ((4 : Int32))) L) (bb_g (vp_in (x3 + ((5 : Int32))) L) ((F_X4_copy_0 s0 (xs (x3 + ((1 : Int32))).toNatClampNeg) (xs (x3 + ((2 : Int32))).toNatClampNeg) (xs (x3 + ((3 : Int32))).toNatClampNeg) (xs (x3 + ((4 : Int32))).toNatClampNeg) (xs (x3 + ((5 : Int32))).toNatClampNeg)).bind (fun q227 => bb_g (vp_in (x3 + ((1 : Int32))) L) (bb_g (vp_in (x3 + ((2 : Int32))) L) (bb_g (vp_in (x3 + ((3 : Int32))) L) (bb_g (vp_in (x3 + ((4 : Int32))) L) (bb_g (vp_in (x3 + ((5 : Int32))) L) ((F_X5_copy_0 s1 (xs (x3 + ((1 : Int32))).toNatClampNeg) (xs (x3 + ((2 : Int32))).toNatClampNeg) (xs (x3 + ((3 : Int32))).toNatClampNeg) (xs (x3 + ((4 : Int32))).toNatClampNeg) (xs (x3 + ((5 : Int32))).toNatClampNeg)).bind (fun q233 => if q227.1 = q233.1 then (F_L_law_1141 L xs k18 q227.2 q233.2 x3) else (some 0)))))))))))))) else (F_L_law_1141 L xs k18 s0 s1 x3)))))))))))))))))))))))))))))))
noncomputable def F_L_law_18 (L : Nat) (xs : Nat → Int32) : Nat → bb_H → bb_O → Int32 → Option Int32
  | 0, _, _, _ => none
  | n + 1, s0, s1, x3 => G_L_law_18 L xs (F_L_law_18 L xs n) s0 s1 x3
set_option maxHeartbeats 4000000 in
set_option maxRecDepth 100000 in
theorem A_L_law_18 {X : bb_X} (C : bb_C X RL cL_law 4) (hR : bb_r X 8) (hr : X.meth.sig.returnType = (some .boolean)) (h : Nat → Nat → Nat) (g : Nat → Nat) (a b : Nat) (hE : bb_S a b X.A X.s X.s.heap) {c0 L : Nat} {xs : Nat → Int32} (hX : bb_scr X c0 L xs) {z : Int32} (R : bb_L X ∧ z = 1) {k18 : bb_H → bb_O → Int32 → Option Int32} (hk18 : ∀ (s0 : bb_H) (s1 : bb_O) (x3 : Int32), k18 s0 s1 x3 = some z → bb_Z X 4 (wX4 X.cs h s0 ++ wX5 X.cs g s1) 18 [(0, .ref c0), (1, .ref (h 5 0)), (2, .ref (g 0)), (3, .int x3)] []) {s0 : bb_H} {s1 : bb_O} {x3 : Int32} (hf : G_L_law_18 L xs k18 s0 s1 x3 = some z) : bb_Z X 4 (wX4 X.cs h s0 ++ wX5 X.cs g s1) 18 [(0, .ref c0), (1, .ref (h 5 0)), (2, .ref (g 0)), (3, .int x3)] [] := by
  refine z_iload_n (pc := 18) (i := 3) C 3 dL_law_18 rfl rfl ?_
  refine z_aload_n (pc := 19) (i := 0) C 0 dL_law_19 rfl rfl ?_
  refine z_slen (pc := 20) C hX dL_law_20 ?_
  refine z_bipush (pc := 21) C (6 : Int32) dL_law_21 (by decide) ?_
  refine z_isub (pc := 23) C dL_law_23 ?_
  refine z_icmp_gt (pc := 24) C 1147 dL_law_24 (by decide) (fun hc1 => ?_) (fun hc1 => ?_)
  · have hf := bb_t hf hc1
    refine z_iconst (pc := 1147) C (1 : Int32) dL_law_1147 (by decide) ?_
    exact z_lret (pc := 1148) C R.1 dL_law_1148
  · have hf := bb_e hf hc1
    refine z_aload_n (pc := 27) (i := 0) C 0 dL_law_27 rfl rfl ?_
    refine z_iload_n (pc := 28) (i := 3) C 3 dL_law_28 rfl rfl ?_
    obtain ⟨hv2, hf⟩ := bb_g_some hf
    refine z_sld (pc := 29) C hX hv2 dL_law_29 ?_
    refine z_bipush (pc := 30) C (31 : Int32) dL_law_30 (by decide) ?_
    refine z_iand (pc := 32) C dL_law_32 ?_
    by_cases hc3 : ((xs x3.toNatClampNeg) &&& ((31 : Int32))) = 0
    · have hf := bb_t hf hc3
      refine z_tabIn (pc := 33) C 164 (0 : Int32) dL_law_33 hc3 (by decide) (by decide) rfl (by decide) ?_
      refine z_aload_n (pc := 164) (i := 1) C 1 dL_law_164 rfl rfl ?_
      refine z_aload_n (pc := 165) (i := 0) C 0 dL_law_165 rfl rfl ?_
      refine z_iload_n (pc := 166) (i := 3) C 3 dL_law_166 rfl rfl ?_
      refine z_iconst (pc := 167) C (1 : Int32) dL_law_167 (by decide) ?_
      refine z_iadd (pc := 168) C dL_law_168 ?_
      obtain ⟨hv4, hf⟩ := bb_g_some hf
      refine z_sld (pc := 169) C hX hv4 dL_law_169 ?_
      refine z_aload_n (pc := 170) (i := 0) C 0 dL_law_170 rfl rfl ?_
      refine z_iload_n (pc := 171) (i := 3) C 3 dL_law_171 rfl rfl ?_
      refine z_iconst (pc := 172) C (2 : Int32) dL_law_172 (by decide) ?_
      refine z_iadd (pc := 173) C dL_law_173 ?_
      obtain ⟨hv5, hf⟩ := bb_g_some hf
      refine z_sld (pc := 174) C hX hv5 dL_law_174 ?_
      obtain ⟨q6, hq6, hf⟩ := bb_b_some hf
      refine z_callVi (pc := 175) (ci := 4) (q0 := 0) (As := [.int (xs (x3 + ((1 : Int32))).toNatClampNeg), .int (xs (x3 + ((2 : Int32))).toNatClampNeg)]) (rest := []) (ws' := wX4 X.cs h q6.2 ++ wX5 X.cs g s1) C (hR.le (by decide)) (c_X4_streets h hq6) cut_h bv_X4_streets bm_L_13 rfl rfl rfl rfl (Nat.le_of_ble_eq_true rfl) dL_law_175 ?_
      refine z_aload_n (pc := 178) (i := 2) C 2 dL_law_178 rfl rfl ?_
      refine z_aload_n (pc := 179) (i := 0) C 0 dL_law_179 rfl rfl ?_
      refine z_iload_n (pc := 180) (i := 3) C 3 dL_law_180 rfl rfl ?_
      refine z_iconst (pc := 181) C (1 : Int32) dL_law_181 (by decide) ?_
      refine z_iadd (pc := 182) C dL_law_182 ?_
      obtain ⟨hv7, hf⟩ := bb_g_some hf
      refine z_sld (pc := 183) C hX hv7 dL_law_183 ?_
      refine z_aload_n (pc := 184) (i := 0) C 0 dL_law_184 rfl rfl ?_
      refine z_iload_n (pc := 185) (i := 3) C 3 dL_law_185 rfl rfl ?_
      refine z_iconst (pc := 186) C (2 : Int32) dL_law_186 (by decide) ?_
      refine z_iadd (pc := 187) C dL_law_187 ?_
      obtain ⟨hv8, hf⟩ := bb_g_some hf
      refine z_sld (pc := 188) C hX hv8 dL_law_188 ?_
      obtain ⟨q9, hq9, hf⟩ := bb_b_some hf
      refine z_callVi (pc := 189) (ci := 5) (q0 := 0) (As := [.int (xs (x3 + ((1 : Int32))).toNatClampNeg), .int (xs (x3 + ((2 : Int32))).toNatClampNeg)]) (rest := [.int q6.1]) (ws' := wX4 X.cs h q6.2 ++ wX5 X.cs g q9.2) C (hR.le (by decide)) (c_X5_streets g hq9) (cut_r (bb_cut_self _ _)) bv_X5_streets bm_L_17 rfl rfl rfl rfl (Nat.le_of_ble_eq_true rfl) dL_law_189 ?_
      refine z_icmp_eq (pc := 192) C 1141 dL_law_192 (by decide) (fun hc10 => ?_) (fun hc10 => ?_)
      · have hf := bb_t hf hc10
        exact B_L_law_1141 C hR hr h g a b hE hX R hk18 hf
      · have hf := bb_e hf hc10
        refine z_iconst (pc := 195) C (0 : Int32) dL_law_195 (by decide) ?_
        exact absurd (Option.some.inj hf) (by rw [R.2]; decide)
    · have hf := bb_e hf hc3
      by_cases hc11 : ((xs x3.toNatClampNeg) &&& ((31 : Int32))) = 1
      · have hf := bb_t hf hc11
        refine z_tabIn (pc := 33) C 197 (1 : Int32) dL_law_33 hc11 (by decide) (by decide) rfl (by decide) ?_
        refine z_aload_n (pc := 197) (i := 1) C 1 dL_law_197 rfl rfl ?_
        refine z_aload_n (pc := 198) (i := 0) C 0 dL_law_198 rfl rfl ?_
        refine z_iload_n (pc := 199) (i := 3) C 3 dL_law_199 rfl rfl ?_
        refine z_iconst (pc := 200) C (1 : Int32) dL_law_200 (by decide) ?_
        refine z_iadd (pc := 201) C dL_law_201 ?_
        obtain ⟨hv12, hf⟩ := bb_g_some hf
        refine z_sld (pc := 202) C hX hv12 dL_law_202 ?_
        refine z_aload_n (pc := 203) (i := 0) C 0 dL_law_203 rfl rfl ?_
        refine z_iload_n (pc := 204) (i := 3) C 3 dL_law_204 rfl rfl ?_
        refine z_iconst (pc := 205) C (2 : Int32) dL_law_205 (by decide) ?_
        refine z_iadd (pc := 206) C dL_law_206 ?_
        obtain ⟨hv13, hf⟩ := bb_g_some hf
        refine z_sld (pc := 207) C hX hv13 dL_law_207 ?_
        refine z_aload_n (pc := 208) (i := 0) C 0 dL_law_208 rfl rfl ?_
        refine z_iload_n (pc := 209) (i := 3) C 3 dL_law_209 rfl rfl ?_
        refine z_iconst (pc := 210) C (3 : Int32) dL_law_210 (by decide) ?_
        refine z_iadd (pc := 211) C dL_law_211 ?_
        obtain ⟨hv14, hf⟩ := bb_g_some hf
        refine z_sld (pc := 212) C hX hv14 dL_law_212 ?_
        refine z_aload_n (pc := 213) (i := 0) C 0 dL_law_213 rfl rfl ?_
        refine z_iload_n (pc := 214) (i := 3) C 3 dL_law_214 rfl rfl ?_
        refine z_iconst (pc := 215) C (4 : Int32) dL_law_215 (by decide) ?_
        refine z_iadd (pc := 216) C dL_law_216 ?_
        obtain ⟨hv15, hf⟩ := bb_g_some hf
        refine z_sld (pc := 217) C hX hv15 dL_law_217 ?_
        obtain ⟨q16, hq16, hf⟩ := bb_b_some hf
        refine z_callVi (pc := 218) (ci := 4) (q0 := 0) (As := [.int (xs (x3 + ((1 : Int32))).toNatClampNeg), .int (xs (x3 + ((2 : Int32))).toNatClampNeg), .int (xs (x3 + ((3 : Int32))).toNatClampNeg), .int (xs (x3 + ((4 : Int32))).toNatClampNeg)]) (rest := []) (ws' := wX4 X.cs h q16.2 ++ wX5 X.cs g s1) C (hR.le (by decide)) (c_X4_person h hq16) cut_h bv_X4_person bm_L_18 rfl rfl rfl rfl (Nat.le_of_ble_eq_true rfl) dL_law_218 ?_
        refine z_aload_n (pc := 221) (i := 2) C 2 dL_law_221 rfl rfl ?_
        refine z_aload_n (pc := 222) (i := 0) C 0 dL_law_222 rfl rfl ?_
        refine z_iload_n (pc := 223) (i := 3) C 3 dL_law_223 rfl rfl ?_
        refine z_iconst (pc := 224) C (1 : Int32) dL_law_224 (by decide) ?_
        refine z_iadd (pc := 225) C dL_law_225 ?_
        obtain ⟨hv17, hf⟩ := bb_g_some hf
        refine z_sld (pc := 226) C hX hv17 dL_law_226 ?_
        refine z_aload_n (pc := 227) (i := 0) C 0 dL_law_227 rfl rfl ?_
        refine z_iload_n (pc := 228) (i := 3) C 3 dL_law_228 rfl rfl ?_
        refine z_iconst (pc := 229) C (2 : Int32) dL_law_229 (by decide) ?_
        refine z_iadd (pc := 230) C dL_law_230 ?_
        obtain ⟨hv18, hf⟩ := bb_g_some hf
        refine z_sld (pc := 231) C hX hv18 dL_law_231 ?_
        refine z_aload_n (pc := 232) (i := 0) C 0 dL_law_232 rfl rfl ?_
        refine z_iload_n (pc := 233) (i := 3) C 3 dL_law_233 rfl rfl ?_
        refine z_iconst (pc := 234) C (3 : Int32) dL_law_234 (by decide) ?_
        refine z_iadd (pc := 235) C dL_law_235 ?_
        obtain ⟨hv19, hf⟩ := bb_g_some hf
        refine z_sld (pc := 236) C hX hv19 dL_law_236 ?_
        refine z_aload_n (pc := 237) (i := 0) C 0 dL_law_237 rfl rfl ?_
        refine z_iload_n (pc := 238) (i := 3) C 3 dL_law_238 rfl rfl ?_
        refine z_iconst (pc := 239) C (4 : Int32) dL_law_239 (by decide) ?_
        refine z_iadd (pc := 240) C dL_law_240 ?_
        obtain ⟨hv20, hf⟩ := bb_g_some hf
        refine z_sld (pc := 241) C hX hv20 dL_law_241 ?_
        obtain ⟨q21, hq21, hf⟩ := bb_b_some hf
        refine z_callVi (pc := 242) (ci := 5) (q0 := 0) (As := [.int (xs (x3 + ((1 : Int32))).toNatClampNeg), .int (xs (x3 + ((2 : Int32))).toNatClampNeg), .int (xs (x3 + ((3 : Int32))).toNatClampNeg), .int (xs (x3 + ((4 : Int32))).toNatClampNeg)]) (rest := [.int q16.1]) (ws' := wX4 X.cs h q16.2 ++ wX5 X.cs g q21.2) C (hR.le (by decide)) (c_X5_person g hq21) (cut_r (bb_cut_self _ _)) bv_X5_person bm_L_22 rfl rfl rfl rfl (Nat.le_of_ble_eq_true rfl) dL_law_242 ?_
        refine z_icmp_eq (pc := 245) C 1141 dL_law_245 (by decide) (fun hc22 => ?_) (fun hc22 => ?_)
        · have hf := bb_t hf hc22
          exact B_L_law_1141 C hR hr h g a b hE hX R hk18 hf
        · have hf := bb_e hf hc22
          refine z_iconst (pc := 248) C (0 : Int32) dL_law_248 (by decide) ?_
          exact absurd (Option.some.inj hf) (by rw [R.2]; decide)
      · have hf := bb_e hf hc11
        by_cases hc23 : ((xs x3.toNatClampNeg) &&& ((31 : Int32))) = 2
        · have hf := bb_t hf hc23
          refine z_tabIn (pc := 33) C 250 (2 : Int32) dL_law_33 hc23 (by decide) (by decide) rfl (by decide) ?_
          refine z_aload_n (pc := 250) (i := 1) C 1 dL_law_250 rfl rfl ?_
          refine z_aload_n (pc := 251) (i := 0) C 0 dL_law_251 rfl rfl ?_
          refine z_iload_n (pc := 252) (i := 3) C 3 dL_law_252 rfl rfl ?_
          refine z_iconst (pc := 253) C (1 : Int32) dL_law_253 (by decide) ?_
          refine z_iadd (pc := 254) C dL_law_254 ?_
          obtain ⟨hv24, hf⟩ := bb_g_some hf
          refine z_sld (pc := 255) C hX hv24 dL_law_255 ?_
          refine z_aload_n (pc := 256) (i := 0) C 0 dL_law_256 rfl rfl ?_
          refine z_iload_n (pc := 257) (i := 3) C 3 dL_law_257 rfl rfl ?_
          refine z_iconst (pc := 258) C (2 : Int32) dL_law_258 (by decide) ?_
          refine z_iadd (pc := 259) C dL_law_259 ?_
          obtain ⟨hv25, hf⟩ := bb_g_some hf
          refine z_sld (pc := 260) C hX hv25 dL_law_260 ?_
          obtain ⟨q26, hq26, hf⟩ := bb_b_some hf
          refine z_callVi (pc := 261) (ci := 4) (q0 := 0) (As := [.int (xs (x3 + ((1 : Int32))).toNatClampNeg), .int (xs (x3 + ((2 : Int32))).toNatClampNeg)]) (rest := []) C (hR.le (by decide)) (c_X4_of h hq26) cut_h bv_X4_of bm_L_23 rfl rfl rfl rfl (Nat.le_of_ble_eq_true rfl) dL_law_261 ?_
          refine z_aload_n (pc := 264) (i := 2) C 2 dL_law_264 rfl rfl ?_
          refine z_aload_n (pc := 265) (i := 0) C 0 dL_law_265 rfl rfl ?_
          refine z_iload_n (pc := 266) (i := 3) C 3 dL_law_266 rfl rfl ?_
          refine z_iconst (pc := 267) C (1 : Int32) dL_law_267 (by decide) ?_
          refine z_iadd (pc := 268) C dL_law_268 ?_
          obtain ⟨hv27, hf⟩ := bb_g_some hf
          refine z_sld (pc := 269) C hX hv27 dL_law_269 ?_
          refine z_aload_n (pc := 270) (i := 0) C 0 dL_law_270 rfl rfl ?_
          refine z_iload_n (pc := 271) (i := 3) C 3 dL_law_271 rfl rfl ?_
          refine z_iconst (pc := 272) C (2 : Int32) dL_law_272 (by decide) ?_
          refine z_iadd (pc := 273) C dL_law_273 ?_
          obtain ⟨hv28, hf⟩ := bb_g_some hf
          refine z_sld (pc := 274) C hX hv28 dL_law_274 ?_
          obtain ⟨q29, hq29, hf⟩ := bb_b_some hf
          refine z_callVi (pc := 275) (ci := 5) (q0 := 0) (As := [.int (xs (x3 + ((1 : Int32))).toNatClampNeg), .int (xs (x3 + ((2 : Int32))).toNatClampNeg)]) (rest := [.int q26]) C (hR.le (by decide)) (c_X5_of g hq29) (cut_r (bb_cut_self _ _)) bv_X5_of bm_L_26 rfl rfl rfl rfl (Nat.le_of_ble_eq_true rfl) dL_law_275 ?_
          refine z_icmp_eq (pc := 278) C 1141 dL_law_278 (by decide) (fun hc30 => ?_) (fun hc30 => ?_)
          · have hf := bb_t hf hc30
            exact B_L_law_1141 C hR hr h g a b hE hX R hk18 hf
          · have hf := bb_e hf hc30
            refine z_iconst (pc := 281) C (0 : Int32) dL_law_281 (by decide) ?_
            exact absurd (Option.some.inj hf) (by rw [R.2]; decide)
        · have hf := bb_e hf hc23
          by_cases hc31 : ((xs x3.toNatClampNeg) &&& ((31 : Int32))) = 3
          · have hf := bb_t hf hc31
            refine z_tabIn (pc := 33) C 283 (3 : Int32) dL_law_33 hc31 (by decide) (by decide) rfl (by decide) ?_
            refine z_aload_n (pc := 283) (i := 1) C 1 dL_law_283 rfl rfl ?_
            refine z_aload_n (pc := 284) (i := 0) C 0 dL_law_284 rfl rfl ?_
            refine z_iload_n (pc := 285) (i := 3) C 3 dL_law_285 rfl rfl ?_
            refine z_iconst (pc := 286) C (1 : Int32) dL_law_286 (by decide) ?_
            refine z_iadd (pc := 287) C dL_law_287 ?_
            obtain ⟨hv32, hf⟩ := bb_g_some hf
            refine z_sld (pc := 288) C hX hv32 dL_law_288 ?_
            refine z_aload_n (pc := 289) (i := 0) C 0 dL_law_289 rfl rfl ?_
            refine z_iload_n (pc := 290) (i := 3) C 3 dL_law_290 rfl rfl ?_
            refine z_iconst (pc := 291) C (2 : Int32) dL_law_291 (by decide) ?_
            refine z_iadd (pc := 292) C dL_law_292 ?_
            obtain ⟨hv33, hf⟩ := bb_g_some hf
            refine z_sld (pc := 293) C hX hv33 dL_law_293 ?_
            refine z_aload_n (pc := 294) (i := 0) C 0 dL_law_294 rfl rfl ?_
            refine z_iload_n (pc := 295) (i := 3) C 3 dL_law_295 rfl rfl ?_
            refine z_iconst (pc := 296) C (3 : Int32) dL_law_296 (by decide) ?_
            refine z_iadd (pc := 297) C dL_law_297 ?_
            obtain ⟨hv34, hf⟩ := bb_g_some hf
            refine z_sld (pc := 298) C hX hv34 dL_law_298 ?_
            obtain ⟨q35, hq35, hf⟩ := bb_b_some hf
            refine z_callVi (pc := 299) (ci := 4) (q0 := 0) (As := [.int (xs (x3 + ((1 : Int32))).toNatClampNeg), .int (xs (x3 + ((2 : Int32))).toNatClampNeg), .int (xs (x3 + ((3 : Int32))).toNatClampNeg)]) (rest := []) (ws' := wX4 X.cs h q35.2 ++ wX5 X.cs g s1) C (hR.le (by decide)) (c_X4_rule h hq35) cut_h bv_X4_rule bm_L_27 rfl rfl rfl rfl (Nat.le_of_ble_eq_true rfl) dL_law_299 ?_
            refine z_aload_n (pc := 302) (i := 2) C 2 dL_law_302 rfl rfl ?_
            refine z_aload_n (pc := 303) (i := 0) C 0 dL_law_303 rfl rfl ?_
            refine z_iload_n (pc := 304) (i := 3) C 3 dL_law_304 rfl rfl ?_
            refine z_iconst (pc := 305) C (1 : Int32) dL_law_305 (by decide) ?_
            refine z_iadd (pc := 306) C dL_law_306 ?_
            obtain ⟨hv36, hf⟩ := bb_g_some hf
            refine z_sld (pc := 307) C hX hv36 dL_law_307 ?_
            refine z_aload_n (pc := 308) (i := 0) C 0 dL_law_308 rfl rfl ?_
            refine z_iload_n (pc := 309) (i := 3) C 3 dL_law_309 rfl rfl ?_
            refine z_iconst (pc := 310) C (2 : Int32) dL_law_310 (by decide) ?_
            refine z_iadd (pc := 311) C dL_law_311 ?_
            obtain ⟨hv37, hf⟩ := bb_g_some hf
            refine z_sld (pc := 312) C hX hv37 dL_law_312 ?_
            refine z_aload_n (pc := 313) (i := 0) C 0 dL_law_313 rfl rfl ?_
            refine z_iload_n (pc := 314) (i := 3) C 3 dL_law_314 rfl rfl ?_
            refine z_iconst (pc := 315) C (3 : Int32) dL_law_315 (by decide) ?_
            refine z_iadd (pc := 316) C dL_law_316 ?_
            obtain ⟨hv38, hf⟩ := bb_g_some hf
            refine z_sld (pc := 317) C hX hv38 dL_law_317 ?_
            obtain ⟨q39, hq39, hf⟩ := bb_b_some hf
            refine z_callVi (pc := 318) (ci := 5) (q0 := 0) (As := [.int (xs (x3 + ((1 : Int32))).toNatClampNeg), .int (xs (x3 + ((2 : Int32))).toNatClampNeg), .int (xs (x3 + ((3 : Int32))).toNatClampNeg)]) (rest := [.int q35.1]) (ws' := wX4 X.cs h q35.2 ++ wX5 X.cs g q39.2) C (hR.le (by decide)) (c_X5_rule g hq39) (cut_r (bb_cut_self _ _)) bv_X5_rule bm_L_31 rfl rfl rfl rfl (Nat.le_of_ble_eq_true rfl) dL_law_318 ?_
            refine z_icmp_eq (pc := 321) C 1141 dL_law_321 (by decide) (fun hc40 => ?_) (fun hc40 => ?_)
            · have hf := bb_t hf hc40
              exact B_L_law_1141 C hR hr h g a b hE hX R hk18 hf
            · have hf := bb_e hf hc40
              refine z_iconst (pc := 324) C (0 : Int32) dL_law_324 (by decide) ?_
              exact absurd (Option.some.inj hf) (by rw [R.2]; decide)
          · have hf := bb_e hf hc31
            by_cases hc41 : ((xs x3.toNatClampNeg) &&& ((31 : Int32))) = 4
            · have hf := bb_t hf hc41
              refine z_tabIn (pc := 33) C 326 (4 : Int32) dL_law_33 hc41 (by decide) (by decide) rfl (by decide) ?_
              refine z_aload_n (pc := 326) (i := 1) C 1 dL_law_326 rfl rfl ?_
              refine z_aload_n (pc := 327) (i := 0) C 0 dL_law_327 rfl rfl ?_
              refine z_iload_n (pc := 328) (i := 3) C 3 dL_law_328 rfl rfl ?_
              refine z_iconst (pc := 329) C (1 : Int32) dL_law_329 (by decide) ?_
              refine z_iadd (pc := 330) C dL_law_330 ?_
              obtain ⟨hv42, hf⟩ := bb_g_some hf
              refine z_sld (pc := 331) C hX hv42 dL_law_331 ?_
              obtain ⟨q43, hq43, hf⟩ := bb_b_some hf
              refine z_callVi (pc := 332) (ci := 4) (q0 := 0) (As := [.int (xs (x3 + ((1 : Int32))).toNatClampNeg)]) (rest := []) (ws' := wX4 X.cs h q43.2 ++ wX5 X.cs g s1) C (hR.le (by decide)) (c_X4_type h hq43) cut_h bv_X4_type bm_L_32 rfl rfl rfl rfl (Nat.le_of_ble_eq_true rfl) dL_law_332 ?_
              refine z_aload_n (pc := 335) (i := 2) C 2 dL_law_335 rfl rfl ?_
              refine z_aload_n (pc := 336) (i := 0) C 0 dL_law_336 rfl rfl ?_
              refine z_iload_n (pc := 337) (i := 3) C 3 dL_law_337 rfl rfl ?_
              refine z_iconst (pc := 338) C (1 : Int32) dL_law_338 (by decide) ?_
              refine z_iadd (pc := 339) C dL_law_339 ?_
              obtain ⟨hv44, hf⟩ := bb_g_some hf
              refine z_sld (pc := 340) C hX hv44 dL_law_340 ?_
              obtain ⟨q45, hq45, hf⟩ := bb_b_some hf
              refine z_callVi (pc := 341) (ci := 5) (q0 := 0) (As := [.int (xs (x3 + ((1 : Int32))).toNatClampNeg)]) (rest := [.int q43.1]) (ws' := wX4 X.cs h q43.2 ++ wX5 X.cs g q45.2) C (hR.le (by decide)) (c_X5_type g hq45) (cut_r (bb_cut_self _ _)) bv_X5_type bm_L_36 rfl rfl rfl rfl (Nat.le_of_ble_eq_true rfl) dL_law_341 ?_
              refine z_icmp_eq (pc := 344) C 1141 dL_law_344 (by decide) (fun hc46 => ?_) (fun hc46 => ?_)
              · have hf := bb_t hf hc46
                exact B_L_law_1141 C hR hr h g a b hE hX R hk18 hf
              · have hf := bb_e hf hc46
                refine z_iconst (pc := 347) C (0 : Int32) dL_law_347 (by decide) ?_
                exact absurd (Option.some.inj hf) (by rw [R.2]; decide)
            · have hf := bb_e hf hc41
              by_cases hc47 : ((xs x3.toNatClampNeg) &&& ((31 : Int32))) = 5
              · have hf := bb_t hf hc47
                refine z_tabIn (pc := 33) C 349 (5 : Int32) dL_law_33 hc47 (by decide) (by decide) rfl (by decide) ?_
                refine z_aload_n (pc := 349) (i := 1) C 1 dL_law_349 rfl rfl ?_
                obtain ⟨q48, hq48, hf⟩ := bb_b_some hf
                refine z_callVS (pc := 350) (ci := 4) (q0 := 0) (As := []) (rest := []) (ws' := wX4 X.cs h q48.2 ++ wX5 X.cs g s1) C hE (hR.le (by decide)) (c_X4_city h a b hq48) cut_h bv_X4_city bm_L_37 rfl rfl rfl rfl (Nat.le_of_ble_eq_true rfl) dL_law_350 ?_
                refine z_aload_n (pc := 353) (i := 2) C 2 dL_law_353 rfl rfl ?_
                obtain ⟨q49, hq49, hf⟩ := bb_b_some hf
                refine z_callVi (pc := 354) (ci := 5) (q0 := 0) (As := []) (rest := [.int q48.1]) (ws' := wX4 X.cs h q48.2 ++ wX5 X.cs g q49.2) C (hR.le (by decide)) (c_X5_city g hq49) (cut_r (bb_cut_self _ _)) bv_X5_city bm_L_41 rfl rfl rfl rfl (Nat.le_of_ble_eq_true rfl) dL_law_354 ?_
                refine z_icmp_eq (pc := 357) C 1141 dL_law_357 (by decide) (fun hc50 => ?_) (fun hc50 => ?_)
                · have hf := bb_t hf hc50
                  exact B_L_law_1141 C hR hr h g a b hE hX R hk18 hf
                · have hf := bb_e hf hc50
                  refine z_iconst (pc := 360) C (0 : Int32) dL_law_360 (by decide) ?_
                  exact absurd (Option.some.inj hf) (by rw [R.2]; decide)
              · have hf := bb_e hf hc47
                by_cases hc51 : ((xs x3.toNatClampNeg) &&& ((31 : Int32))) = 6
                · have hf := bb_t hf hc51
                  refine z_tabIn (pc := 33) C 362 (6 : Int32) dL_law_33 hc51 (by decide) (by decide) rfl (by decide) ?_
                  refine z_aload_n (pc := 362) (i := 1) C 1 dL_law_362 rfl rfl ?_
                  refine z_aload_n (pc := 363) (i := 0) C 0 dL_law_363 rfl rfl ?_
                  refine z_iload_n (pc := 364) (i := 3) C 3 dL_law_364 rfl rfl ?_
                  refine z_iconst (pc := 365) C (1 : Int32) dL_law_365 (by decide) ?_
                  refine z_iadd (pc := 366) C dL_law_366 ?_
                  obtain ⟨hv52, hf⟩ := bb_g_some hf
                  refine z_sld (pc := 367) C hX hv52 dL_law_367 ?_
                  obtain ⟨q53, hq53, hf⟩ := bb_b_some hf
                  refine z_callVi (pc := 368) (ci := 4) (q0 := 0) (As := [.int (xs (x3 + ((1 : Int32))).toNatClampNeg)]) (rest := []) C (hR.le (by decide)) (c_X4_count h hq53) cut_h bv_X4_count bm_L_42 rfl rfl rfl rfl (Nat.le_of_ble_eq_true rfl) dL_law_368 ?_
                  refine z_aload_n (pc := 371) (i := 2) C 2 dL_law_371 rfl rfl ?_
                  refine z_aload_n (pc := 372) (i := 0) C 0 dL_law_372 rfl rfl ?_
                  refine z_iload_n (pc := 373) (i := 3) C 3 dL_law_373 rfl rfl ?_
                  refine z_iconst (pc := 374) C (1 : Int32) dL_law_374 (by decide) ?_
                  refine z_iadd (pc := 375) C dL_law_375 ?_
                  obtain ⟨hv54, hf⟩ := bb_g_some hf
                  refine z_sld (pc := 376) C hX hv54 dL_law_376 ?_
                  obtain ⟨q55, hq55, hf⟩ := bb_b_some hf
                  refine z_callVi (pc := 377) (ci := 5) (q0 := 0) (As := [.int (xs (x3 + ((1 : Int32))).toNatClampNeg)]) (rest := [.int q53]) C (hR.le (by decide)) (c_X5_count g hq55) (cut_r (bb_cut_self _ _)) bv_X5_count bm_L_45 rfl rfl rfl rfl (Nat.le_of_ble_eq_true rfl) dL_law_377 ?_
                  refine z_icmp_eq (pc := 380) C 1141 dL_law_380 (by decide) (fun hc56 => ?_) (fun hc56 => ?_)
                  · have hf := bb_t hf hc56
                    exact B_L_law_1141 C hR hr h g a b hE hX R hk18 hf
                  · have hf := bb_e hf hc56
                    refine z_iconst (pc := 383) C (0 : Int32) dL_law_383 (by decide) ?_
                    exact absurd (Option.some.inj hf) (by rw [R.2]; decide)
                · have hf := bb_e hf hc51
                  by_cases hc57 : ((xs x3.toNatClampNeg) &&& ((31 : Int32))) = 7
                  · have hf := bb_t hf hc57
                    refine z_tabIn (pc := 33) C 385 (7 : Int32) dL_law_33 hc57 (by decide) (by decide) rfl (by decide) ?_
                    refine z_aload_n (pc := 385) (i := 1) C 1 dL_law_385 rfl rfl ?_
                    refine z_aload_n (pc := 386) (i := 0) C 0 dL_law_386 rfl rfl ?_
                    refine z_iload_n (pc := 387) (i := 3) C 3 dL_law_387 rfl rfl ?_
                    refine z_iconst (pc := 388) C (1 : Int32) dL_law_388 (by decide) ?_
                    refine z_iadd (pc := 389) C dL_law_389 ?_
                    obtain ⟨hv58, hf⟩ := bb_g_some hf
                    refine z_sld (pc := 390) C hX hv58 dL_law_390 ?_
                    obtain ⟨q59, hq59, hf⟩ := bb_b_some hf
                    refine z_callVi (pc := 391) (ci := 4) (q0 := 0) (As := [.int (xs (x3 + ((1 : Int32))).toNatClampNeg)]) (rest := []) (ws' := wX4 X.cs h q59.2 ++ wX5 X.cs g s1) C (hR.le (by decide)) (c_X4_minutes h hq59) cut_h bv_X4_minutes bm_L_46 rfl rfl rfl rfl (Nat.le_of_ble_eq_true rfl) dL_law_391 ?_
                    refine z_aload_n (pc := 394) (i := 2) C 2 dL_law_394 rfl rfl ?_
                    refine z_aload_n (pc := 395) (i := 0) C 0 dL_law_395 rfl rfl ?_
                    refine z_iload_n (pc := 396) (i := 3) C 3 dL_law_396 rfl rfl ?_
                    refine z_iconst (pc := 397) C (1 : Int32) dL_law_397 (by decide) ?_
                    refine z_iadd (pc := 398) C dL_law_398 ?_
                    obtain ⟨hv60, hf⟩ := bb_g_some hf
                    refine z_sld (pc := 399) C hX hv60 dL_law_399 ?_
                    obtain ⟨q61, hq61, hf⟩ := bb_b_some hf
                    refine z_callVi (pc := 400) (ci := 5) (q0 := 0) (As := [.int (xs (x3 + ((1 : Int32))).toNatClampNeg)]) (rest := [.int q59.1]) (ws' := wX4 X.cs h q59.2 ++ wX5 X.cs g q61.2) C (hR.le (by decide)) (c_X5_minutes g hq61) (cut_r (bb_cut_self _ _)) bv_X5_minutes bm_L_49 rfl rfl rfl rfl (Nat.le_of_ble_eq_true rfl) dL_law_400 ?_
                    refine z_icmp_eq (pc := 403) C 1141 dL_law_403 (by decide) (fun hc62 => ?_) (fun hc62 => ?_)
                    · have hf := bb_t hf hc62
                      exact B_L_law_1141 C hR hr h g a b hE hX R hk18 hf
                    · have hf := bb_e hf hc62
                      refine z_iconst (pc := 406) C (0 : Int32) dL_law_406 (by decide) ?_
                      exact absurd (Option.some.inj hf) (by rw [R.2]; decide)
                  · have hf := bb_e hf hc57
                    by_cases hc63 : ((xs x3.toNatClampNeg) &&& ((31 : Int32))) = 8
                    · have hf := bb_t hf hc63
                      refine z_tabIn (pc := 33) C 408 (8 : Int32) dL_law_33 hc63 (by decide) (by decide) rfl (by decide) ?_
                      refine z_aload_n (pc := 408) (i := 1) C 1 dL_law_408 rfl rfl ?_
                      refine z_aload_n (pc := 409) (i := 0) C 0 dL_law_409 rfl rfl ?_
                      refine z_iload_n (pc := 410) (i := 3) C 3 dL_law_410 rfl rfl ?_
                      refine z_iconst (pc := 411) C (1 : Int32) dL_law_411 (by decide) ?_
                      refine z_iadd (pc := 412) C dL_law_412 ?_
                      obtain ⟨hv64, hf⟩ := bb_g_some hf
                      refine z_sld (pc := 413) C hX hv64 dL_law_413 ?_
                      refine z_aload_n (pc := 414) (i := 0) C 0 dL_law_414 rfl rfl ?_
                      refine z_iload_n (pc := 415) (i := 3) C 3 dL_law_415 rfl rfl ?_
                      refine z_iconst (pc := 416) C (2 : Int32) dL_law_416 (by decide) ?_
                      refine z_iadd (pc := 417) C dL_law_417 ?_
                      obtain ⟨hv65, hf⟩ := bb_g_some hf
                      refine z_sld (pc := 418) C hX hv65 dL_law_418 ?_
                      obtain ⟨q66, hq66, hf⟩ := bb_b_some hf
                      refine z_callVi (pc := 419) (ci := 4) (q0 := 0) (As := [.int (xs (x3 + ((1 : Int32))).toNatClampNeg), .int (xs (x3 + ((2 : Int32))).toNatClampNeg)]) (rest := []) (ws' := wX4 X.cs h q66.2 ++ wX5 X.cs g s1) C (hR.le (by decide)) (c_X4_walk h hq66) cut_h bv_X4_walk bm_L_50 rfl rfl rfl rfl (Nat.le_of_ble_eq_true rfl) dL_law_419 ?_
                      refine z_aload_n (pc := 422) (i := 2) C 2 dL_law_422 rfl rfl ?_
                      refine z_aload_n (pc := 423) (i := 0) C 0 dL_law_423 rfl rfl ?_
                      refine z_iload_n (pc := 424) (i := 3) C 3 dL_law_424 rfl rfl ?_
                      refine z_iconst (pc := 425) C (1 : Int32) dL_law_425 (by decide) ?_
                      refine z_iadd (pc := 426) C dL_law_426 ?_
                      obtain ⟨hv67, hf⟩ := bb_g_some hf
                      refine z_sld (pc := 427) C hX hv67 dL_law_427 ?_
                      refine z_aload_n (pc := 428) (i := 0) C 0 dL_law_428 rfl rfl ?_
                      refine z_iload_n (pc := 429) (i := 3) C 3 dL_law_429 rfl rfl ?_
                      refine z_iconst (pc := 430) C (2 : Int32) dL_law_430 (by decide) ?_
                      refine z_iadd (pc := 431) C dL_law_431 ?_
                      obtain ⟨hv68, hf⟩ := bb_g_some hf
                      refine z_sld (pc := 432) C hX hv68 dL_law_432 ?_
                      obtain ⟨q69, hq69, hf⟩ := bb_b_some hf
                      refine z_callVi (pc := 433) (ci := 5) (q0 := 0) (As := [.int (xs (x3 + ((1 : Int32))).toNatClampNeg), .int (xs (x3 + ((2 : Int32))).toNatClampNeg)]) (rest := [.int q66.1]) (ws' := wX4 X.cs h q66.2 ++ wX5 X.cs g q69.2) C (hR.le (by decide)) (c_X5_walk g hq69) (cut_r (bb_cut_self _ _)) bv_X5_walk bm_L_53 rfl rfl rfl rfl (Nat.le_of_ble_eq_true rfl) dL_law_433 ?_
                      refine z_icmp_eq (pc := 436) C 1141 dL_law_436 (by decide) (fun hc70 => ?_) (fun hc70 => ?_)
                      · have hf := bb_t hf hc70
                        exact B_L_law_1141 C hR hr h g a b hE hX R hk18 hf
                      · have hf := bb_e hf hc70
                        refine z_iconst (pc := 439) C (0 : Int32) dL_law_439 (by decide) ?_
                        exact absurd (Option.some.inj hf) (by rw [R.2]; decide)
                    · have hf := bb_e hf hc63
                      by_cases hc71 : ((xs x3.toNatClampNeg) &&& ((31 : Int32))) = 9
                      · have hf := bb_t hf hc71
                        refine z_tabIn (pc := 33) C 441 (9 : Int32) dL_law_33 hc71 (by decide) (by decide) rfl (by decide) ?_
                        refine z_aload_n (pc := 441) (i := 1) C 1 dL_law_441 rfl rfl ?_
                        refine z_aload_n (pc := 442) (i := 0) C 0 dL_law_442 rfl rfl ?_
                        refine z_iload_n (pc := 443) (i := 3) C 3 dL_law_443 rfl rfl ?_
                        refine z_iconst (pc := 444) C (1 : Int32) dL_law_444 (by decide) ?_
                        refine z_iadd (pc := 445) C dL_law_445 ?_
                        obtain ⟨hv72, hf⟩ := bb_g_some hf
                        refine z_sld (pc := 446) C hX hv72 dL_law_446 ?_
                        obtain ⟨q73, hq73, hf⟩ := bb_b_some hf
                        refine z_callVi (pc := 447) (ci := 4) (q0 := 0) (As := [.int (xs (x3 + ((1 : Int32))).toNatClampNeg)]) (rest := []) (ws' := wX4 X.cs h q73.2 ++ wX5 X.cs g s1) C (hR.le (by decide)) (c_X4_free h hq73) cut_h bv_X4_free bm_L_54 rfl rfl rfl rfl (Nat.le_of_ble_eq_true rfl) dL_law_447 ?_
                        refine z_aload_n (pc := 450) (i := 2) C 2 dL_law_450 rfl rfl ?_
                        refine z_aload_n (pc := 451) (i := 0) C 0 dL_law_451 rfl rfl ?_
                        refine z_iload_n (pc := 452) (i := 3) C 3 dL_law_452 rfl rfl ?_
                        refine z_iconst (pc := 453) C (1 : Int32) dL_law_453 (by decide) ?_
                        refine z_iadd (pc := 454) C dL_law_454 ?_
                        obtain ⟨hv74, hf⟩ := bb_g_some hf
                        refine z_sld (pc := 455) C hX hv74 dL_law_455 ?_
                        obtain ⟨q75, hq75, hf⟩ := bb_b_some hf
                        refine z_callVi (pc := 456) (ci := 5) (q0 := 0) (As := [.int (xs (x3 + ((1 : Int32))).toNatClampNeg)]) (rest := [.int q73.1]) (ws' := wX4 X.cs h q73.2 ++ wX5 X.cs g q75.2) C (hR.le (by decide)) (c_X5_free g hq75) (cut_r (bb_cut_self _ _)) bv_X5_free bm_L_57 rfl rfl rfl rfl (Nat.le_of_ble_eq_true rfl) dL_law_456 ?_
                        refine z_icmp_eq (pc := 459) C 1141 dL_law_459 (by decide) (fun hc76 => ?_) (fun hc76 => ?_)
                        · have hf := bb_t hf hc76
                          exact B_L_law_1141 C hR hr h g a b hE hX R hk18 hf
                        · have hf := bb_e hf hc76
                          refine z_iconst (pc := 462) C (0 : Int32) dL_law_462 (by decide) ?_
                          exact absurd (Option.some.inj hf) (by rw [R.2]; decide)
                      · have hf := bb_e hf hc71
                        by_cases hc77 : ((xs x3.toNatClampNeg) &&& ((31 : Int32))) = 10
                        · have hf := bb_t hf hc77
                          refine z_tabIn (pc := 33) C 464 (10 : Int32) dL_law_33 hc77 (by decide) (by decide) rfl (by decide) ?_
                          refine z_aload_n (pc := 464) (i := 1) C 1 dL_law_464 rfl rfl ?_
                          refine z_aload_n (pc := 465) (i := 0) C 0 dL_law_465 rfl rfl ?_
                          refine z_iload_n (pc := 466) (i := 3) C 3 dL_law_466 rfl rfl ?_
                          refine z_iconst (pc := 467) C (1 : Int32) dL_law_467 (by decide) ?_
                          refine z_iadd (pc := 468) C dL_law_468 ?_
                          obtain ⟨hv78, hf⟩ := bb_g_some hf
                          refine z_sld (pc := 469) C hX hv78 dL_law_469 ?_
                          obtain ⟨q79, hq79, hf⟩ := bb_b_some hf
                          refine z_callVi (pc := 470) (ci := 4) (q0 := 0) (As := [.int (xs (x3 + ((1 : Int32))).toNatClampNeg)]) (rest := []) (ws' := wX4 X.cs h q79.2 ++ wX5 X.cs g s1) C (hR.le (by decide)) (c_X4_drift h hq79) cut_h bv_X4_drift bm_L_58 rfl rfl rfl rfl (Nat.le_of_ble_eq_true rfl) dL_law_470 ?_
                          refine z_aload_n (pc := 473) (i := 2) C 2 dL_law_473 rfl rfl ?_
                          refine z_aload_n (pc := 474) (i := 0) C 0 dL_law_474 rfl rfl ?_
                          refine z_iload_n (pc := 475) (i := 3) C 3 dL_law_475 rfl rfl ?_
                          refine z_iconst (pc := 476) C (1 : Int32) dL_law_476 (by decide) ?_
                          refine z_iadd (pc := 477) C dL_law_477 ?_
                          obtain ⟨hv80, hf⟩ := bb_g_some hf
                          refine z_sld (pc := 478) C hX hv80 dL_law_478 ?_
                          obtain ⟨q81, hq81, hf⟩ := bb_b_some hf
                          refine z_callVi (pc := 479) (ci := 5) (q0 := 0) (As := [.int (xs (x3 + ((1 : Int32))).toNatClampNeg)]) (rest := [.int q79.1]) (ws' := wX4 X.cs h q79.2 ++ wX5 X.cs g q81.2) C (hR.le (by decide)) (c_X5_drift g hq81) (cut_r (bb_cut_self _ _)) bv_X5_drift bm_L_61 rfl rfl rfl rfl (Nat.le_of_ble_eq_true rfl) dL_law_479 ?_
                          refine z_icmp_eq (pc := 482) C 1141 dL_law_482 (by decide) (fun hc82 => ?_) (fun hc82 => ?_)
                          · have hf := bb_t hf hc82
                            exact B_L_law_1141 C hR hr h g a b hE hX R hk18 hf
                          · have hf := bb_e hf hc82
                            refine z_iconst (pc := 485) C (0 : Int32) dL_law_485 (by decide) ?_
                            exact absurd (Option.some.inj hf) (by rw [R.2]; decide)
                        · have hf := bb_e hf hc77
                          by_cases hc83 : ((xs x3.toNatClampNeg) &&& ((31 : Int32))) = 11
                          · have hf := bb_t hf hc83
                            refine z_tabIn (pc := 33) C 487 (11 : Int32) dL_law_33 hc83 (by decide) (by decide) rfl (by decide) ?_
                            refine z_aload_n (pc := 487) (i := 1) C 1 dL_law_487 rfl rfl ?_
                            obtain ⟨q84, hq84, hf⟩ := bb_b_some hf
                            refine z_callVi (pc := 488) (ci := 4) (q0 := 0) (As := []) (rest := []) (ws' := wX4 X.cs h q84.2 ++ wX5 X.cs g s1) C (hR.le (by decide)) (c_X4_undo h hq84) cut_h bv_X4_undo bm_L_62 rfl rfl rfl rfl (Nat.le_of_ble_eq_true rfl) dL_law_488 ?_
                            refine z_aload_n (pc := 491) (i := 2) C 2 dL_law_491 rfl rfl ?_
                            obtain ⟨q85, hq85, hf⟩ := bb_b_some hf
                            refine z_callVi (pc := 492) (ci := 5) (q0 := 0) (As := []) (rest := [.int q84.1]) (ws' := wX4 X.cs h q84.2 ++ wX5 X.cs g q85.2) C (hR.le (by decide)) (c_X5_undo g hq85) (cut_r (bb_cut_self _ _)) bv_X5_undo bm_L_65 rfl rfl rfl rfl (Nat.le_of_ble_eq_true rfl) dL_law_492 ?_
                            refine z_icmp_eq (pc := 495) C 1141 dL_law_495 (by decide) (fun hc86 => ?_) (fun hc86 => ?_)
                            · have hf := bb_t hf hc86
                              exact B_L_law_1141 C hR hr h g a b hE hX R hk18 hf
                            · have hf := bb_e hf hc86
                              refine z_iconst (pc := 498) C (0 : Int32) dL_law_498 (by decide) ?_
                              exact absurd (Option.some.inj hf) (by rw [R.2]; decide)
                          · have hf := bb_e hf hc83
                            by_cases hc87 : ((xs x3.toNatClampNeg) &&& ((31 : Int32))) = 12
                            · have hf := bb_t hf hc87
                              refine z_tabIn (pc := 33) C 500 (12 : Int32) dL_law_33 hc87 (by decide) (by decide) rfl (by decide) ?_
                              refine z_aload_n (pc := 500) (i := 1) C 1 dL_law_500 rfl rfl ?_
                              refine z_aload_n (pc := 501) (i := 0) C 0 dL_law_501 rfl rfl ?_
                              refine z_iload_n (pc := 502) (i := 3) C 3 dL_law_502 rfl rfl ?_
                              refine z_iconst (pc := 503) C (1 : Int32) dL_law_503 (by decide) ?_
                              refine z_iadd (pc := 504) C dL_law_504 ?_
                              obtain ⟨hv88, hf⟩ := bb_g_some hf
                              refine z_sld (pc := 505) C hX hv88 dL_law_505 ?_
                              obtain ⟨q89, hq89, hf⟩ := bb_b_some hf
                              refine z_callVi (pc := 506) (ci := 4) (q0 := 0) (As := [.int (xs (x3 + ((1 : Int32))).toNatClampNeg)]) (rest := []) (ws' := wX4 X.cs h q89.2 ++ wX5 X.cs g s1) C (hR.le (by decide)) (c_X4_seed h hq89) cut_h bv_X4_seed bm_L_66 rfl rfl rfl rfl (Nat.le_of_ble_eq_true rfl) dL_law_506 ?_
                              refine z_aload_n (pc := 509) (i := 2) C 2 dL_law_509 rfl rfl ?_
                              refine z_aload_n (pc := 510) (i := 0) C 0 dL_law_510 rfl rfl ?_
                              refine z_iload_n (pc := 511) (i := 3) C 3 dL_law_511 rfl rfl ?_
                              refine z_iconst (pc := 512) C (1 : Int32) dL_law_512 (by decide) ?_
                              refine z_iadd (pc := 513) C dL_law_513 ?_
                              obtain ⟨hv90, hf⟩ := bb_g_some hf
                              refine z_sld (pc := 514) C hX hv90 dL_law_514 ?_
                              obtain ⟨q91, hq91, hf⟩ := bb_b_some hf
                              refine z_callVi (pc := 515) (ci := 5) (q0 := 0) (As := [.int (xs (x3 + ((1 : Int32))).toNatClampNeg)]) (rest := [.int q89.1]) (ws' := wX4 X.cs h q89.2 ++ wX5 X.cs g q91.2) C (hR.le (by decide)) (c_X5_seed g hq91) (cut_r (bb_cut_self _ _)) bv_X5_seed bm_L_69 rfl rfl rfl rfl (Nat.le_of_ble_eq_true rfl) dL_law_515 ?_
                              refine z_icmp_eq (pc := 518) C 1141 dL_law_518 (by decide) (fun hc92 => ?_) (fun hc92 => ?_)
                              · have hf := bb_t hf hc92
                                exact B_L_law_1141 C hR hr h g a b hE hX R hk18 hf
                              · have hf := bb_e hf hc92
                                refine z_iconst (pc := 521) C (0 : Int32) dL_law_521 (by decide) ?_
                                exact absurd (Option.some.inj hf) (by rw [R.2]; decide)
                            · have hf := bb_e hf hc87
                              by_cases hc93 : ((xs x3.toNatClampNeg) &&& ((31 : Int32))) = 13
                              · have hf := bb_t hf hc93
                                refine z_tabIn (pc := 33) C 523 (13 : Int32) dL_law_33 hc93 (by decide) (by decide) rfl (by decide) ?_
                                refine z_aload_n (pc := 523) (i := 1) C 1 dL_law_523 rfl rfl ?_
                                refine z_aload_n (pc := 524) (i := 0) C 0 dL_law_524 rfl rfl ?_
                                refine z_iload_n (pc := 525) (i := 3) C 3 dL_law_525 rfl rfl ?_
                                refine z_iconst (pc := 526) C (1 : Int32) dL_law_526 (by decide) ?_
                                refine z_iadd (pc := 527) C dL_law_527 ?_
                                obtain ⟨hv94, hf⟩ := bb_g_some hf
                                refine z_sld (pc := 528) C hX hv94 dL_law_528 ?_
                                refine z_aload_n (pc := 529) (i := 0) C 0 dL_law_529 rfl rfl ?_
                                refine z_iload_n (pc := 530) (i := 3) C 3 dL_law_530 rfl rfl ?_
                                refine z_iconst (pc := 531) C (2 : Int32) dL_law_531 (by decide) ?_
                                refine z_iadd (pc := 532) C dL_law_532 ?_
                                obtain ⟨hv95, hf⟩ := bb_g_some hf
                                refine z_sld (pc := 533) C hX hv95 dL_law_533 ?_
                                obtain ⟨q96, hq96, hf⟩ := bb_b_some hf
                                refine z_callVi (pc := 534) (ci := 4) (q0 := 0) (As := [.int (xs (x3 + ((1 : Int32))).toNatClampNeg), .int (xs (x3 + ((2 : Int32))).toNatClampNeg)]) (rest := []) (ws' := wX4 X.cs h q96.2 ++ wX5 X.cs g s1) C (hR.le (by decide)) (c_X4_ahead h hq96) cut_h bv_X4_ahead bm_L_70 rfl rfl rfl rfl (Nat.le_of_ble_eq_true rfl) dL_law_534 ?_
                                refine z_aload_n (pc := 537) (i := 2) C 2 dL_law_537 rfl rfl ?_
                                refine z_aload_n (pc := 538) (i := 0) C 0 dL_law_538 rfl rfl ?_
                                refine z_iload_n (pc := 539) (i := 3) C 3 dL_law_539 rfl rfl ?_
                                refine z_iconst (pc := 540) C (1 : Int32) dL_law_540 (by decide) ?_
                                refine z_iadd (pc := 541) C dL_law_541 ?_
                                obtain ⟨hv97, hf⟩ := bb_g_some hf
                                refine z_sld (pc := 542) C hX hv97 dL_law_542 ?_
                                refine z_aload_n (pc := 543) (i := 0) C 0 dL_law_543 rfl rfl ?_
                                refine z_iload_n (pc := 544) (i := 3) C 3 dL_law_544 rfl rfl ?_
                                refine z_iconst (pc := 545) C (2 : Int32) dL_law_545 (by decide) ?_
                                refine z_iadd (pc := 546) C dL_law_546 ?_
                                obtain ⟨hv98, hf⟩ := bb_g_some hf
                                refine z_sld (pc := 547) C hX hv98 dL_law_547 ?_
                                obtain ⟨q99, hq99, hf⟩ := bb_b_some hf
                                refine z_callVi (pc := 548) (ci := 5) (q0 := 0) (As := [.int (xs (x3 + ((1 : Int32))).toNatClampNeg), .int (xs (x3 + ((2 : Int32))).toNatClampNeg)]) (rest := [.int q96.1]) (ws' := wX4 X.cs h q96.2 ++ wX5 X.cs g q99.2) C (hR.le (by decide)) (c_X5_ahead g hq99) (cut_r (bb_cut_self _ _)) bv_X5_ahead bm_L_73 rfl rfl rfl rfl (Nat.le_of_ble_eq_true rfl) dL_law_548 ?_
                                refine z_icmp_eq (pc := 551) C 1141 dL_law_551 (by decide) (fun hc100 => ?_) (fun hc100 => ?_)
                                · have hf := bb_t hf hc100
                                  exact B_L_law_1141 C hR hr h g a b hE hX R hk18 hf
                                · have hf := bb_e hf hc100
                                  refine z_iconst (pc := 554) C (0 : Int32) dL_law_554 (by decide) ?_
                                  exact absurd (Option.some.inj hf) (by rw [R.2]; decide)
                              · have hf := bb_e hf hc93
                                by_cases hc101 : ((xs x3.toNatClampNeg) &&& ((31 : Int32))) = 14
                                · have hf := bb_t hf hc101
                                  refine z_tabIn (pc := 33) C 556 (14 : Int32) dL_law_33 hc101 (by decide) (by decide) rfl (by decide) ?_
                                  refine z_aload_n (pc := 556) (i := 1) C 1 dL_law_556 rfl rfl ?_
                                  refine z_aload_n (pc := 557) (i := 0) C 0 dL_law_557 rfl rfl ?_
                                  refine z_iload_n (pc := 558) (i := 3) C 3 dL_law_558 rfl rfl ?_
                                  refine z_iconst (pc := 559) C (1 : Int32) dL_law_559 (by decide) ?_
                                  refine z_iadd (pc := 560) C dL_law_560 ?_
                                  obtain ⟨hv102, hf⟩ := bb_g_some hf
                                  refine z_sld (pc := 561) C hX hv102 dL_law_561 ?_
                                  obtain ⟨q103, hq103, hf⟩ := bb_b_some hf
                                  refine z_callVi (pc := 562) (ci := 4) (q0 := 0) (As := [.int (xs (x3 + ((1 : Int32))).toNatClampNeg)]) (rest := []) (ws' := wX4 X.cs h q103.2 ++ wX5 X.cs g s1) C (hR.le (by decide)) (c_X4_next h hq103) cut_h bv_X4_next bm_L_74 rfl rfl rfl rfl (Nat.le_of_ble_eq_true rfl) dL_law_562 ?_
                                  refine z_aload_n (pc := 565) (i := 2) C 2 dL_law_565 rfl rfl ?_
                                  refine z_aload_n (pc := 566) (i := 0) C 0 dL_law_566 rfl rfl ?_
                                  refine z_iload_n (pc := 567) (i := 3) C 3 dL_law_567 rfl rfl ?_
                                  refine z_iconst (pc := 568) C (1 : Int32) dL_law_568 (by decide) ?_
                                  refine z_iadd (pc := 569) C dL_law_569 ?_
                                  obtain ⟨hv104, hf⟩ := bb_g_some hf
                                  refine z_sld (pc := 570) C hX hv104 dL_law_570 ?_
                                  obtain ⟨q105, hq105, hf⟩ := bb_b_some hf
                                  refine z_callVi (pc := 571) (ci := 5) (q0 := 0) (As := [.int (xs (x3 + ((1 : Int32))).toNatClampNeg)]) (rest := [.int q103.1]) (ws' := wX4 X.cs h q103.2 ++ wX5 X.cs g q105.2) C (hR.le (by decide)) (c_X5_next g hq105) (cut_r (bb_cut_self _ _)) bv_X5_next bm_L_77 rfl rfl rfl rfl (Nat.le_of_ble_eq_true rfl) dL_law_571 ?_
                                  refine z_icmp_eq (pc := 574) C 1141 dL_law_574 (by decide) (fun hc106 => ?_) (fun hc106 => ?_)
                                  · have hf := bb_t hf hc106
                                    exact B_L_law_1141 C hR hr h g a b hE hX R hk18 hf
                                  · have hf := bb_e hf hc106
                                    refine z_iconst (pc := 577) C (0 : Int32) dL_law_577 (by decide) ?_
                                    exact absurd (Option.some.inj hf) (by rw [R.2]; decide)
                                · have hf := bb_e hf hc101
                                  by_cases hc107 : ((xs x3.toNatClampNeg) &&& ((31 : Int32))) = 15
                                  · have hf := bb_t hf hc107
                                    refine z_tabIn (pc := 33) C 579 (15 : Int32) dL_law_33 hc107 (by decide) (by decide) rfl (by decide) ?_
                                    refine z_aload_n (pc := 579) (i := 1) C 1 dL_law_579 rfl rfl ?_
                                    refine z_aload_n (pc := 580) (i := 0) C 0 dL_law_580 rfl rfl ?_
                                    refine z_iload_n (pc := 581) (i := 3) C 3 dL_law_581 rfl rfl ?_
                                    refine z_iconst (pc := 582) C (1 : Int32) dL_law_582 (by decide) ?_
                                    refine z_iadd (pc := 583) C dL_law_583 ?_
                                    obtain ⟨hv108, hf⟩ := bb_g_some hf
                                    refine z_sld (pc := 584) C hX hv108 dL_law_584 ?_
                                    refine z_aload_n (pc := 585) (i := 0) C 0 dL_law_585 rfl rfl ?_
                                    refine z_iload_n (pc := 586) (i := 3) C 3 dL_law_586 rfl rfl ?_
                                    refine z_iconst (pc := 587) C (2 : Int32) dL_law_587 (by decide) ?_
                                    refine z_iadd (pc := 588) C dL_law_588 ?_
                                    obtain ⟨hv109, hf⟩ := bb_g_some hf
                                    refine z_sld (pc := 589) C hX hv109 dL_law_589 ?_
                                    obtain ⟨q110, hq110, hf⟩ := bb_b_some hf
                                    refine z_callVi (pc := 590) (ci := 4) (q0 := 0) (As := [.int (xs (x3 + ((1 : Int32))).toNatClampNeg), .int (xs (x3 + ((2 : Int32))).toNatClampNeg)]) (rest := []) (ws' := wX4 X.cs h q110.2 ++ wX5 X.cs g s1) C (hR.le (by decide)) (c_X4_stand h hq110) cut_h bv_X4_stand bm_L_78 rfl rfl rfl rfl (Nat.le_of_ble_eq_true rfl) dL_law_590 ?_
                                    refine z_aload_n (pc := 593) (i := 2) C 2 dL_law_593 rfl rfl ?_
                                    refine z_aload_n (pc := 594) (i := 0) C 0 dL_law_594 rfl rfl ?_
                                    refine z_iload_n (pc := 595) (i := 3) C 3 dL_law_595 rfl rfl ?_
                                    refine z_iconst (pc := 596) C (1 : Int32) dL_law_596 (by decide) ?_
                                    refine z_iadd (pc := 597) C dL_law_597 ?_
                                    obtain ⟨hv111, hf⟩ := bb_g_some hf
                                    refine z_sld (pc := 598) C hX hv111 dL_law_598 ?_
                                    refine z_aload_n (pc := 599) (i := 0) C 0 dL_law_599 rfl rfl ?_
                                    refine z_iload_n (pc := 600) (i := 3) C 3 dL_law_600 rfl rfl ?_
                                    refine z_iconst (pc := 601) C (2 : Int32) dL_law_601 (by decide) ?_
                                    refine z_iadd (pc := 602) C dL_law_602 ?_
                                    obtain ⟨hv112, hf⟩ := bb_g_some hf
                                    refine z_sld (pc := 603) C hX hv112 dL_law_603 ?_
                                    obtain ⟨q113, hq113, hf⟩ := bb_b_some hf
                                    refine z_callVi (pc := 604) (ci := 5) (q0 := 0) (As := [.int (xs (x3 + ((1 : Int32))).toNatClampNeg), .int (xs (x3 + ((2 : Int32))).toNatClampNeg)]) (rest := [.int q110.1]) (ws' := wX4 X.cs h q110.2 ++ wX5 X.cs g q113.2) C (hR.le (by decide)) (c_X5_stand g hq113) (cut_r (bb_cut_self _ _)) bv_X5_stand bm_L_81 rfl rfl rfl rfl (Nat.le_of_ble_eq_true rfl) dL_law_604 ?_
                                    refine z_icmp_eq (pc := 607) C 1141 dL_law_607 (by decide) (fun hc114 => ?_) (fun hc114 => ?_)
                                    · have hf := bb_t hf hc114
                                      exact B_L_law_1141 C hR hr h g a b hE hX R hk18 hf
                                    · have hf := bb_e hf hc114
                                      refine z_iconst (pc := 610) C (0 : Int32) dL_law_610 (by decide) ?_
                                      exact absurd (Option.some.inj hf) (by rw [R.2]; decide)
                                  · have hf := bb_e hf hc107
                                    by_cases hc115 : ((xs x3.toNatClampNeg) &&& ((31 : Int32))) = 16
                                    · have hf := bb_t hf hc115
                                      refine z_tabIn (pc := 33) C 612 (16 : Int32) dL_law_33 hc115 (by decide) (by decide) rfl (by decide) ?_
                                      refine z_aload_n (pc := 612) (i := 1) C 1 dL_law_612 rfl rfl ?_
                                      refine z_aload_n (pc := 613) (i := 0) C 0 dL_law_613 rfl rfl ?_
                                      refine z_iload_n (pc := 614) (i := 3) C 3 dL_law_614 rfl rfl ?_
                                      refine z_iconst (pc := 615) C (1 : Int32) dL_law_615 (by decide) ?_
                                      refine z_iadd (pc := 616) C dL_law_616 ?_
                                      obtain ⟨hv116, hf⟩ := bb_g_some hf
                                      refine z_sld (pc := 617) C hX hv116 dL_law_617 ?_
                                      refine z_aload_n (pc := 618) (i := 0) C 0 dL_law_618 rfl rfl ?_
                                      refine z_iload_n (pc := 619) (i := 3) C 3 dL_law_619 rfl rfl ?_
                                      refine z_iconst (pc := 620) C (2 : Int32) dL_law_620 (by decide) ?_
                                      refine z_iadd (pc := 621) C dL_law_621 ?_
                                      obtain ⟨hv117, hf⟩ := bb_g_some hf
                                      refine z_sld (pc := 622) C hX hv117 dL_law_622 ?_
                                      obtain ⟨q118, hq118, hf⟩ := bb_b_some hf
                                      refine z_callVi (pc := 623) (ci := 4) (q0 := 0) (As := [.int (xs (x3 + ((1 : Int32))).toNatClampNeg), .int (xs (x3 + ((2 : Int32))).toNatClampNeg)]) (rest := []) (ws' := wX4 X.cs h q118.2 ++ wX5 X.cs g s1) C (hR.le (by decide)) (c_X4_hush h hq118) cut_h bv_X4_hush bm_L_82 rfl rfl rfl rfl (Nat.le_of_ble_eq_true rfl) dL_law_623 ?_
                                      refine z_aload_n (pc := 626) (i := 2) C 2 dL_law_626 rfl rfl ?_
                                      refine z_aload_n (pc := 627) (i := 0) C 0 dL_law_627 rfl rfl ?_
                                      refine z_iload_n (pc := 628) (i := 3) C 3 dL_law_628 rfl rfl ?_
                                      refine z_iconst (pc := 629) C (1 : Int32) dL_law_629 (by decide) ?_
                                      refine z_iadd (pc := 630) C dL_law_630 ?_
                                      obtain ⟨hv119, hf⟩ := bb_g_some hf
                                      refine z_sld (pc := 631) C hX hv119 dL_law_631 ?_
                                      refine z_aload_n (pc := 632) (i := 0) C 0 dL_law_632 rfl rfl ?_
                                      refine z_iload_n (pc := 633) (i := 3) C 3 dL_law_633 rfl rfl ?_
                                      refine z_iconst (pc := 634) C (2 : Int32) dL_law_634 (by decide) ?_
                                      refine z_iadd (pc := 635) C dL_law_635 ?_
                                      obtain ⟨hv120, hf⟩ := bb_g_some hf
                                      refine z_sld (pc := 636) C hX hv120 dL_law_636 ?_
                                      obtain ⟨q121, hq121, hf⟩ := bb_b_some hf
                                      refine z_callVi (pc := 637) (ci := 5) (q0 := 0) (As := [.int (xs (x3 + ((1 : Int32))).toNatClampNeg), .int (xs (x3 + ((2 : Int32))).toNatClampNeg)]) (rest := [.int q118.1]) (ws' := wX4 X.cs h q118.2 ++ wX5 X.cs g q121.2) C (hR.le (by decide)) (c_X5_hush g hq121) (cut_r (bb_cut_self _ _)) bv_X5_hush bm_L_85 rfl rfl rfl rfl (Nat.le_of_ble_eq_true rfl) dL_law_637 ?_
                                      refine z_icmp_eq (pc := 640) C 1141 dL_law_640 (by decide) (fun hc122 => ?_) (fun hc122 => ?_)
                                      · have hf := bb_t hf hc122
                                        exact B_L_law_1141 C hR hr h g a b hE hX R hk18 hf
                                      · have hf := bb_e hf hc122
                                        refine z_iconst (pc := 643) C (0 : Int32) dL_law_643 (by decide) ?_
                                        exact absurd (Option.some.inj hf) (by rw [R.2]; decide)
                                    · have hf := bb_e hf hc115
                                      by_cases hc123 : ((xs x3.toNatClampNeg) &&& ((31 : Int32))) = 17
                                      · have hf := bb_t hf hc123
                                        refine z_tabIn (pc := 33) C 645 (17 : Int32) dL_law_33 hc123 (by decide) (by decide) rfl (by decide) ?_
                                        refine z_aload_n (pc := 645) (i := 1) C 1 dL_law_645 rfl rfl ?_
                                        refine z_aload_n (pc := 646) (i := 0) C 0 dL_law_646 rfl rfl ?_
                                        refine z_iload_n (pc := 647) (i := 3) C 3 dL_law_647 rfl rfl ?_
                                        refine z_iconst (pc := 648) C (1 : Int32) dL_law_648 (by decide) ?_
                                        refine z_iadd (pc := 649) C dL_law_649 ?_
                                        obtain ⟨hv124, hf⟩ := bb_g_some hf
                                        refine z_sld (pc := 650) C hX hv124 dL_law_650 ?_
                                        refine z_aload_n (pc := 651) (i := 0) C 0 dL_law_651 rfl rfl ?_
                                        refine z_iload_n (pc := 652) (i := 3) C 3 dL_law_652 rfl rfl ?_
                                        refine z_iconst (pc := 653) C (2 : Int32) dL_law_653 (by decide) ?_
                                        refine z_iadd (pc := 654) C dL_law_654 ?_
                                        obtain ⟨hv125, hf⟩ := bb_g_some hf
                                        refine z_sld (pc := 655) C hX hv125 dL_law_655 ?_
                                        obtain ⟨q126, hq126, hf⟩ := bb_b_some hf
                                        refine z_callVi (pc := 656) (ci := 4) (q0 := 0) (As := [.int (xs (x3 + ((1 : Int32))).toNatClampNeg), .int (xs (x3 + ((2 : Int32))).toNatClampNeg)]) (rest := []) C (hR.le (by decide)) (c_X4_mask h hq126) cut_h bv_X4_mask bm_L_86 rfl rfl rfl rfl (Nat.le_of_ble_eq_true rfl) dL_law_656 ?_
                                        refine z_aload_n (pc := 659) (i := 2) C 2 dL_law_659 rfl rfl ?_
                                        refine z_aload_n (pc := 660) (i := 0) C 0 dL_law_660 rfl rfl ?_
                                        refine z_iload_n (pc := 661) (i := 3) C 3 dL_law_661 rfl rfl ?_
                                        refine z_iconst (pc := 662) C (1 : Int32) dL_law_662 (by decide) ?_
                                        refine z_iadd (pc := 663) C dL_law_663 ?_
                                        obtain ⟨hv127, hf⟩ := bb_g_some hf
                                        refine z_sld (pc := 664) C hX hv127 dL_law_664 ?_
                                        refine z_aload_n (pc := 665) (i := 0) C 0 dL_law_665 rfl rfl ?_
                                        refine z_iload_n (pc := 666) (i := 3) C 3 dL_law_666 rfl rfl ?_
                                        refine z_iconst (pc := 667) C (2 : Int32) dL_law_667 (by decide) ?_
                                        refine z_iadd (pc := 668) C dL_law_668 ?_
                                        obtain ⟨hv128, hf⟩ := bb_g_some hf
                                        refine z_sld (pc := 669) C hX hv128 dL_law_669 ?_
                                        obtain ⟨q129, hq129, hf⟩ := bb_b_some hf
                                        refine z_callVi (pc := 670) (ci := 5) (q0 := 0) (As := [.int (xs (x3 + ((1 : Int32))).toNatClampNeg), .int (xs (x3 + ((2 : Int32))).toNatClampNeg)]) (rest := [.int q126]) C (hR.le (by decide)) (c_X5_mask g hq129) (cut_r (bb_cut_self _ _)) bv_X5_mask bm_L_89 rfl rfl rfl rfl (Nat.le_of_ble_eq_true rfl) dL_law_670 ?_
                                        refine z_icmp_eq (pc := 673) C 1141 dL_law_673 (by decide) (fun hc130 => ?_) (fun hc130 => ?_)
                                        · have hf := bb_t hf hc130
                                          exact B_L_law_1141 C hR hr h g a b hE hX R hk18 hf
                                        · have hf := bb_e hf hc130
                                          refine z_iconst (pc := 676) C (0 : Int32) dL_law_676 (by decide) ?_
                                          exact absurd (Option.some.inj hf) (by rw [R.2]; decide)
                                      · have hf := bb_e hf hc123
                                        by_cases hc131 : ((xs x3.toNatClampNeg) &&& ((31 : Int32))) = 18
                                        · have hf := bb_t hf hc131
                                          refine z_tabIn (pc := 33) C 678 (18 : Int32) dL_law_33 hc131 (by decide) (by decide) rfl (by decide) ?_
                                          refine z_aload_n (pc := 678) (i := 1) C 1 dL_law_678 rfl rfl ?_
                                          refine z_aload_n (pc := 679) (i := 0) C 0 dL_law_679 rfl rfl ?_
                                          refine z_iload_n (pc := 680) (i := 3) C 3 dL_law_680 rfl rfl ?_
                                          refine z_iconst (pc := 681) C (1 : Int32) dL_law_681 (by decide) ?_
                                          refine z_iadd (pc := 682) C dL_law_682 ?_
                                          obtain ⟨hv132, hf⟩ := bb_g_some hf
                                          refine z_sld (pc := 683) C hX hv132 dL_law_683 ?_
                                          refine z_aload_n (pc := 684) (i := 0) C 0 dL_law_684 rfl rfl ?_
                                          refine z_iload_n (pc := 685) (i := 3) C 3 dL_law_685 rfl rfl ?_
                                          refine z_iconst (pc := 686) C (2 : Int32) dL_law_686 (by decide) ?_
                                          refine z_iadd (pc := 687) C dL_law_687 ?_
                                          obtain ⟨hv133, hf⟩ := bb_g_some hf
                                          refine z_sld (pc := 688) C hX hv133 dL_law_688 ?_
                                          obtain ⟨q134, hq134, hf⟩ := bb_b_some hf
                                          refine z_callVi (pc := 689) (ci := 4) (q0 := 0) (As := [.int (xs (x3 + ((1 : Int32))).toNatClampNeg), .int (xs (x3 + ((2 : Int32))).toNatClampNeg)]) (rest := []) C (hR.le (by decide)) (c_X4_alike h hq134) cut_h bv_X4_alike bm_L_90 rfl rfl rfl rfl (Nat.le_of_ble_eq_true rfl) dL_law_689 ?_
                                          refine z_aload_n (pc := 692) (i := 2) C 2 dL_law_692 rfl rfl ?_
                                          refine z_aload_n (pc := 693) (i := 0) C 0 dL_law_693 rfl rfl ?_
                                          refine z_iload_n (pc := 694) (i := 3) C 3 dL_law_694 rfl rfl ?_
                                          refine z_iconst (pc := 695) C (1 : Int32) dL_law_695 (by decide) ?_
                                          refine z_iadd (pc := 696) C dL_law_696 ?_
                                          obtain ⟨hv135, hf⟩ := bb_g_some hf
                                          refine z_sld (pc := 697) C hX hv135 dL_law_697 ?_
                                          refine z_aload_n (pc := 698) (i := 0) C 0 dL_law_698 rfl rfl ?_
                                          refine z_iload_n (pc := 699) (i := 3) C 3 dL_law_699 rfl rfl ?_
                                          refine z_iconst (pc := 700) C (2 : Int32) dL_law_700 (by decide) ?_
                                          refine z_iadd (pc := 701) C dL_law_701 ?_
                                          obtain ⟨hv136, hf⟩ := bb_g_some hf
                                          refine z_sld (pc := 702) C hX hv136 dL_law_702 ?_
                                          obtain ⟨q137, hq137, hf⟩ := bb_b_some hf
                                          refine z_callVi (pc := 703) (ci := 5) (q0 := 0) (As := [.int (xs (x3 + ((1 : Int32))).toNatClampNeg), .int (xs (x3 + ((2 : Int32))).toNatClampNeg)]) (rest := [.int q134]) C (hR.le (by decide)) (c_X5_alike g hq137) (cut_r (bb_cut_self _ _)) bv_X5_alike bm_L_93 rfl rfl rfl rfl (Nat.le_of_ble_eq_true rfl) dL_law_703 ?_
                                          refine z_icmp_eq (pc := 706) C 1141 dL_law_706 (by decide) (fun hc138 => ?_) (fun hc138 => ?_)
                                          · have hf := bb_t hf hc138
                                            exact B_L_law_1141 C hR hr h g a b hE hX R hk18 hf
                                          · have hf := bb_e hf hc138
                                            refine z_iconst (pc := 709) C (0 : Int32) dL_law_709 (by decide) ?_
                                            exact absurd (Option.some.inj hf) (by rw [R.2]; decide)
                                        · have hf := bb_e hf hc131
                                          by_cases hc139 : ((xs x3.toNatClampNeg) &&& ((31 : Int32))) = 19
                                          · have hf := bb_t hf hc139
                                            refine z_tabIn (pc := 33) C 711 (19 : Int32) dL_law_33 hc139 (by decide) (by decide) rfl (by decide) ?_
                                            refine z_aload_n (pc := 711) (i := 1) C 1 dL_law_711 rfl rfl ?_
                                            refine z_aload_n (pc := 712) (i := 0) C 0 dL_law_712 rfl rfl ?_
                                            refine z_iload_n (pc := 713) (i := 3) C 3 dL_law_713 rfl rfl ?_
                                            refine z_iconst (pc := 714) C (1 : Int32) dL_law_714 (by decide) ?_
                                            refine z_iadd (pc := 715) C dL_law_715 ?_
                                            obtain ⟨hv140, hf⟩ := bb_g_some hf
                                            refine z_sld (pc := 716) C hX hv140 dL_law_716 ?_
                                            refine z_aload_n (pc := 717) (i := 0) C 0 dL_law_717 rfl rfl ?_
                                            refine z_iload_n (pc := 718) (i := 3) C 3 dL_law_718 rfl rfl ?_
                                            refine z_iconst (pc := 719) C (2 : Int32) dL_law_719 (by decide) ?_
                                            refine z_iadd (pc := 720) C dL_law_720 ?_
                                            obtain ⟨hv141, hf⟩ := bb_g_some hf
                                            refine z_sld (pc := 721) C hX hv141 dL_law_721 ?_
                                            obtain ⟨q142, hq142, hf⟩ := bb_b_some hf
                                            refine z_callVi (pc := 722) (ci := 4) (q0 := 0) (As := [.int (xs (x3 + ((1 : Int32))).toNatClampNeg), .int (xs (x3 + ((2 : Int32))).toNatClampNeg)]) (rest := []) (ws' := wX4 X.cs h q142.2 ++ wX5 X.cs g s1) C (hR.le (by decide)) (c_X4_turned h hq142) cut_h bv_X4_turned bm_L_94 rfl rfl rfl rfl (Nat.le_of_ble_eq_true rfl) dL_law_722 ?_
                                            refine z_aload_n (pc := 725) (i := 2) C 2 dL_law_725 rfl rfl ?_
                                            refine z_aload_n (pc := 726) (i := 0) C 0 dL_law_726 rfl rfl ?_
                                            refine z_iload_n (pc := 727) (i := 3) C 3 dL_law_727 rfl rfl ?_
                                            refine z_iconst (pc := 728) C (1 : Int32) dL_law_728 (by decide) ?_
                                            refine z_iadd (pc := 729) C dL_law_729 ?_
                                            obtain ⟨hv143, hf⟩ := bb_g_some hf
                                            refine z_sld (pc := 730) C hX hv143 dL_law_730 ?_
                                            refine z_aload_n (pc := 731) (i := 0) C 0 dL_law_731 rfl rfl ?_
                                            refine z_iload_n (pc := 732) (i := 3) C 3 dL_law_732 rfl rfl ?_
                                            refine z_iconst (pc := 733) C (2 : Int32) dL_law_733 (by decide) ?_
                                            refine z_iadd (pc := 734) C dL_law_734 ?_
                                            obtain ⟨hv144, hf⟩ := bb_g_some hf
                                            refine z_sld (pc := 735) C hX hv144 dL_law_735 ?_
                                            obtain ⟨q145, hq145, hf⟩ := bb_b_some hf
                                            refine z_callVi (pc := 736) (ci := 5) (q0 := 0) (As := [.int (xs (x3 + ((1 : Int32))).toNatClampNeg), .int (xs (x3 + ((2 : Int32))).toNatClampNeg)]) (rest := [.int q142.1]) (ws' := wX4 X.cs h q142.2 ++ wX5 X.cs g q145.2) C (hR.le (by decide)) (c_X5_turned g hq145) (cut_r (bb_cut_self _ _)) bv_X5_turned bm_L_97 rfl rfl rfl rfl (Nat.le_of_ble_eq_true rfl) dL_law_736 ?_
                                            refine z_icmp_eq (pc := 739) C 1141 dL_law_739 (by decide) (fun hc146 => ?_) (fun hc146 => ?_)
                                            · have hf := bb_t hf hc146
                                              exact B_L_law_1141 C hR hr h g a b hE hX R hk18 hf
                                            · have hf := bb_e hf hc146
                                              refine z_iconst (pc := 742) C (0 : Int32) dL_law_742 (by decide) ?_
                                              exact absurd (Option.some.inj hf) (by rw [R.2]; decide)
                                          · have hf := bb_e hf hc139
                                            by_cases hc147 : ((xs x3.toNatClampNeg) &&& ((31 : Int32))) = 20
                                            · have hf := bb_t hf hc147
                                              refine z_tabIn (pc := 33) C 744 (20 : Int32) dL_law_33 hc147 (by decide) (by decide) rfl (by decide) ?_
                                              refine z_aload_n (pc := 744) (i := 1) C 1 dL_law_744 rfl rfl ?_
                                              refine z_aload_n (pc := 745) (i := 0) C 0 dL_law_745 rfl rfl ?_
                                              refine z_iload_n (pc := 746) (i := 3) C 3 dL_law_746 rfl rfl ?_
                                              refine z_iconst (pc := 747) C (1 : Int32) dL_law_747 (by decide) ?_
                                              refine z_iadd (pc := 748) C dL_law_748 ?_
                                              obtain ⟨hv148, hf⟩ := bb_g_some hf
                                              refine z_sld (pc := 749) C hX hv148 dL_law_749 ?_
                                              refine z_aload_n (pc := 750) (i := 0) C 0 dL_law_750 rfl rfl ?_
                                              refine z_iload_n (pc := 751) (i := 3) C 3 dL_law_751 rfl rfl ?_
                                              refine z_iconst (pc := 752) C (2 : Int32) dL_law_752 (by decide) ?_
                                              refine z_iadd (pc := 753) C dL_law_753 ?_
                                              obtain ⟨hv149, hf⟩ := bb_g_some hf
                                              refine z_sld (pc := 754) C hX hv149 dL_law_754 ?_
                                              refine z_aload_n (pc := 755) (i := 0) C 0 dL_law_755 rfl rfl ?_
                                              refine z_iload_n (pc := 756) (i := 3) C 3 dL_law_756 rfl rfl ?_
                                              refine z_iconst (pc := 757) C (3 : Int32) dL_law_757 (by decide) ?_
                                              refine z_iadd (pc := 758) C dL_law_758 ?_
                                              obtain ⟨hv150, hf⟩ := bb_g_some hf
                                              refine z_sld (pc := 759) C hX hv150 dL_law_759 ?_
                                              obtain ⟨q151, hq151, hf⟩ := bb_b_some hf
                                              refine z_callVi (pc := 760) (ci := 4) (q0 := 0) (As := [.int (xs (x3 + ((1 : Int32))).toNatClampNeg), .int (xs (x3 + ((2 : Int32))).toNatClampNeg), .int (xs (x3 + ((3 : Int32))).toNatClampNeg)]) (rest := []) C (hR.le (by decide)) (c_X4_luck h hq151) cut_h bv_X4_luck bm_L_98 rfl rfl rfl rfl (Nat.le_of_ble_eq_true rfl) dL_law_760 ?_
                                              refine z_aload_n (pc := 763) (i := 2) C 2 dL_law_763 rfl rfl ?_
                                              refine z_aload_n (pc := 764) (i := 0) C 0 dL_law_764 rfl rfl ?_
                                              refine z_iload_n (pc := 765) (i := 3) C 3 dL_law_765 rfl rfl ?_
                                              refine z_iconst (pc := 766) C (1 : Int32) dL_law_766 (by decide) ?_
                                              refine z_iadd (pc := 767) C dL_law_767 ?_
                                              obtain ⟨hv152, hf⟩ := bb_g_some hf
                                              refine z_sld (pc := 768) C hX hv152 dL_law_768 ?_
                                              refine z_aload_n (pc := 769) (i := 0) C 0 dL_law_769 rfl rfl ?_
                                              refine z_iload_n (pc := 770) (i := 3) C 3 dL_law_770 rfl rfl ?_
                                              refine z_iconst (pc := 771) C (2 : Int32) dL_law_771 (by decide) ?_
                                              refine z_iadd (pc := 772) C dL_law_772 ?_
                                              obtain ⟨hv153, hf⟩ := bb_g_some hf
                                              refine z_sld (pc := 773) C hX hv153 dL_law_773 ?_
                                              refine z_aload_n (pc := 774) (i := 0) C 0 dL_law_774 rfl rfl ?_
                                              refine z_iload_n (pc := 775) (i := 3) C 3 dL_law_775 rfl rfl ?_
                                              refine z_iconst (pc := 776) C (3 : Int32) dL_law_776 (by decide) ?_
                                              refine z_iadd (pc := 777) C dL_law_777 ?_
                                              obtain ⟨hv154, hf⟩ := bb_g_some hf
                                              refine z_sld (pc := 778) C hX hv154 dL_law_778 ?_
                                              obtain ⟨q155, hq155, hf⟩ := bb_b_some hf
                                              refine z_callVi (pc := 779) (ci := 5) (q0 := 0) (As := [.int (xs (x3 + ((1 : Int32))).toNatClampNeg), .int (xs (x3 + ((2 : Int32))).toNatClampNeg), .int (xs (x3 + ((3 : Int32))).toNatClampNeg)]) (rest := [.int q151]) C (hR.le (by decide)) (c_X5_luck g hq155) (cut_r (bb_cut_self _ _)) bv_X5_luck bm_L_101 rfl rfl rfl rfl (Nat.le_of_ble_eq_true rfl) dL_law_779 ?_
                                              refine z_icmp_eq (pc := 782) C 1141 dL_law_782 (by decide) (fun hc156 => ?_) (fun hc156 => ?_)
                                              · have hf := bb_t hf hc156
                                                exact B_L_law_1141 C hR hr h g a b hE hX R hk18 hf
                                              · have hf := bb_e hf hc156
                                                refine z_iconst (pc := 785) C (0 : Int32) dL_law_785 (by decide) ?_
                                                exact absurd (Option.some.inj hf) (by rw [R.2]; decide)
                                            · have hf := bb_e hf hc147
                                              by_cases hc157 : ((xs x3.toNatClampNeg) &&& ((31 : Int32))) = 21
                                              · have hf := bb_t hf hc157
                                                refine z_tabIn (pc := 33) C 787 (21 : Int32) dL_law_33 hc157 (by decide) (by decide) rfl (by decide) ?_
                                                refine z_aload_n (pc := 787) (i := 1) C 1 dL_law_787 rfl rfl ?_
                                                obtain ⟨q158, hq158, hf⟩ := bb_b_some hf
                                                refine z_callVi (pc := 788) (ci := 4) (q0 := 0) (As := []) (rest := []) (ws' := wX4 X.cs h q158.2 ++ wX5 X.cs g s1) C (hR.le (by decide)) (c_X4_image h hq158) cut_h bv_X4_image bm_L_102 rfl rfl rfl rfl (Nat.le_of_ble_eq_true rfl) dL_law_788 ?_
                                                refine z_aload_n (pc := 791) (i := 2) C 2 dL_law_791 rfl rfl ?_
                                                obtain ⟨q159, hq159, hf⟩ := bb_b_some hf
                                                refine z_callVi (pc := 792) (ci := 5) (q0 := 0) (As := []) (rest := [.int q158.1]) (ws' := wX4 X.cs h q158.2 ++ wX5 X.cs g q159.2) C (hR.le (by decide)) (c_X5_image g hq159) (cut_r (bb_cut_self _ _)) bv_X5_image bm_L_105 rfl rfl rfl rfl (Nat.le_of_ble_eq_true rfl) dL_law_792 ?_
                                                refine z_icmp_eq (pc := 795) C 1141 dL_law_795 (by decide) (fun hc160 => ?_) (fun hc160 => ?_)
                                                · have hf := bb_t hf hc160
                                                  exact B_L_law_1141 C hR hr h g a b hE hX R hk18 hf
                                                · have hf := bb_e hf hc160
                                                  refine z_iconst (pc := 798) C (0 : Int32) dL_law_798 (by decide) ?_
                                                  exact absurd (Option.some.inj hf) (by rw [R.2]; decide)
                                              · have hf := bb_e hf hc157
                                                by_cases hc161 : ((xs x3.toNatClampNeg) &&& ((31 : Int32))) = 22
                                                · have hf := bb_t hf hc161
                                                  refine z_tabIn (pc := 33) C 800 (22 : Int32) dL_law_33 hc161 (by decide) (by decide) rfl (by decide) ?_
                                                  refine z_aload_n (pc := 800) (i := 1) C 1 dL_law_800 rfl rfl ?_
                                                  obtain ⟨q162, hq162, hf⟩ := bb_b_some hf
                                                  refine z_callVi (pc := 801) (ci := 4) (q0 := 0) (As := []) (rest := []) (ws' := wX4 X.cs h q162.2 ++ wX5 X.cs g s1) C (hR.le (by decide)) (c_X4_restore h hq162) cut_h bv_X4_restore bm_L_106 rfl rfl rfl rfl (Nat.le_of_ble_eq_true rfl) dL_law_801 ?_
                                                  refine z_aload_n (pc := 804) (i := 2) C 2 dL_law_804 rfl rfl ?_
                                                  obtain ⟨q163, hq163, hf⟩ := bb_b_some hf
                                                  refine z_callVi (pc := 805) (ci := 5) (q0 := 0) (As := []) (rest := [.int q162.1]) (ws' := wX4 X.cs h q162.2 ++ wX5 X.cs g q163.2) C (hR.le (by decide)) (c_X5_restore g hq163) (cut_r (bb_cut_self _ _)) bv_X5_restore bm_L_109 rfl rfl rfl rfl (Nat.le_of_ble_eq_true rfl) dL_law_805 ?_
                                                  refine z_icmp_eq (pc := 808) C 1141 dL_law_808 (by decide) (fun hc164 => ?_) (fun hc164 => ?_)
                                                  · have hf := bb_t hf hc164
                                                    exact B_L_law_1141 C hR hr h g a b hE hX R hk18 hf
                                                  · have hf := bb_e hf hc164
                                                    refine z_iconst (pc := 811) C (0 : Int32) dL_law_811 (by decide) ?_
                                                    exact absurd (Option.some.inj hf) (by rw [R.2]; decide)
                                                · have hf := bb_e hf hc161
                                                  by_cases hc165 : ((xs x3.toNatClampNeg) &&& ((31 : Int32))) = 23
                                                  · have hf := bb_t hf hc165
                                                    refine z_tabIn (pc := 33) C 813 (23 : Int32) dL_law_33 hc165 (by decide) (by decide) rfl (by decide) ?_
                                                    refine z_aload_n (pc := 813) (i := 1) C 1 dL_law_813 rfl rfl ?_
                                                    refine z_aload_n (pc := 814) (i := 0) C 0 dL_law_814 rfl rfl ?_
                                                    refine z_iload_n (pc := 815) (i := 3) C 3 dL_law_815 rfl rfl ?_
                                                    refine z_iconst (pc := 816) C (1 : Int32) dL_law_816 (by decide) ?_
                                                    refine z_iadd (pc := 817) C dL_law_817 ?_
                                                    obtain ⟨hv166, hf⟩ := bb_g_some hf
                                                    refine z_sld (pc := 818) C hX hv166 dL_law_818 ?_
                                                    refine z_aload_n (pc := 819) (i := 0) C 0 dL_law_819 rfl rfl ?_
                                                    refine z_iload_n (pc := 820) (i := 3) C 3 dL_law_820 rfl rfl ?_
                                                    refine z_iconst (pc := 821) C (2 : Int32) dL_law_821 (by decide) ?_
                                                    refine z_iadd (pc := 822) C dL_law_822 ?_
                                                    obtain ⟨hv167, hf⟩ := bb_g_some hf
                                                    refine z_sld (pc := 823) C hX hv167 dL_law_823 ?_
                                                    refine z_aload_n (pc := 824) (i := 0) C 0 dL_law_824 rfl rfl ?_
                                                    refine z_iload_n (pc := 825) (i := 3) C 3 dL_law_825 rfl rfl ?_
                                                    refine z_iconst (pc := 826) C (3 : Int32) dL_law_826 (by decide) ?_
                                                    refine z_iadd (pc := 827) C dL_law_827 ?_
                                                    obtain ⟨hv168, hf⟩ := bb_g_some hf
                                                    refine z_sld (pc := 828) C hX hv168 dL_law_828 ?_
                                                    refine z_aload_n (pc := 829) (i := 0) C 0 dL_law_829 rfl rfl ?_
                                                    refine z_iload_n (pc := 830) (i := 3) C 3 dL_law_830 rfl rfl ?_
                                                    refine z_iconst (pc := 831) C (4 : Int32) dL_law_831 (by decide) ?_
                                                    refine z_iadd (pc := 832) C dL_law_832 ?_
                                                    obtain ⟨hv169, hf⟩ := bb_g_some hf
                                                    refine z_sld (pc := 833) C hX hv169 dL_law_833 ?_
                                                    refine z_aload_n (pc := 834) (i := 0) C 0 dL_law_834 rfl rfl ?_
                                                    refine z_iload_n (pc := 835) (i := 3) C 3 dL_law_835 rfl rfl ?_
                                                    refine z_iconst (pc := 836) C (5 : Int32) dL_law_836 (by decide) ?_
                                                    refine z_iadd (pc := 837) C dL_law_837 ?_
                                                    obtain ⟨hv170, hf⟩ := bb_g_some hf
                                                    refine z_sld (pc := 838) C hX hv170 dL_law_838 ?_
                                                    obtain ⟨q171, hq171, hf⟩ := bb_b_some hf
                                                    refine z_callVi (pc := 839) (ci := 4) (q0 := 0) (As := [.int (xs (x3 + ((1 : Int32))).toNatClampNeg), .int (xs (x3 + ((2 : Int32))).toNatClampNeg), .int (xs (x3 + ((3 : Int32))).toNatClampNeg), .int (xs (x3 + ((4 : Int32))).toNatClampNeg), .int (xs (x3 + ((5 : Int32))).toNatClampNeg)]) (rest := []) (ws' := wX4 X.cs h q171.2 ++ wX5 X.cs g s1) C (hR.le (by decide)) (c_X4_seen h hq171) cut_h bv_X4_seen bm_L_110 rfl rfl rfl rfl (Nat.le_of_ble_eq_true rfl) dL_law_839 ?_
                                                    refine z_aload_n (pc := 842) (i := 2) C 2 dL_law_842 rfl rfl ?_
                                                    refine z_aload_n (pc := 843) (i := 0) C 0 dL_law_843 rfl rfl ?_
                                                    refine z_iload_n (pc := 844) (i := 3) C 3 dL_law_844 rfl rfl ?_
                                                    refine z_iconst (pc := 845) C (1 : Int32) dL_law_845 (by decide) ?_
                                                    refine z_iadd (pc := 846) C dL_law_846 ?_
                                                    obtain ⟨hv172, hf⟩ := bb_g_some hf
                                                    refine z_sld (pc := 847) C hX hv172 dL_law_847 ?_
                                                    refine z_aload_n (pc := 848) (i := 0) C 0 dL_law_848 rfl rfl ?_
                                                    refine z_iload_n (pc := 849) (i := 3) C 3 dL_law_849 rfl rfl ?_
                                                    refine z_iconst (pc := 850) C (2 : Int32) dL_law_850 (by decide) ?_
                                                    refine z_iadd (pc := 851) C dL_law_851 ?_
                                                    obtain ⟨hv173, hf⟩ := bb_g_some hf
                                                    refine z_sld (pc := 852) C hX hv173 dL_law_852 ?_
                                                    refine z_aload_n (pc := 853) (i := 0) C 0 dL_law_853 rfl rfl ?_
                                                    refine z_iload_n (pc := 854) (i := 3) C 3 dL_law_854 rfl rfl ?_
                                                    refine z_iconst (pc := 855) C (3 : Int32) dL_law_855 (by decide) ?_
                                                    refine z_iadd (pc := 856) C dL_law_856 ?_
                                                    obtain ⟨hv174, hf⟩ := bb_g_some hf
                                                    refine z_sld (pc := 857) C hX hv174 dL_law_857 ?_
                                                    refine z_aload_n (pc := 858) (i := 0) C 0 dL_law_858 rfl rfl ?_
                                                    refine z_iload_n (pc := 859) (i := 3) C 3 dL_law_859 rfl rfl ?_
                                                    refine z_iconst (pc := 860) C (4 : Int32) dL_law_860 (by decide) ?_
                                                    refine z_iadd (pc := 861) C dL_law_861 ?_
                                                    obtain ⟨hv175, hf⟩ := bb_g_some hf
                                                    refine z_sld (pc := 862) C hX hv175 dL_law_862 ?_
                                                    refine z_aload_n (pc := 863) (i := 0) C 0 dL_law_863 rfl rfl ?_
                                                    refine z_iload_n (pc := 864) (i := 3) C 3 dL_law_864 rfl rfl ?_
                                                    refine z_iconst (pc := 865) C (5 : Int32) dL_law_865 (by decide) ?_
                                                    refine z_iadd (pc := 866) C dL_law_866 ?_
                                                    obtain ⟨hv176, hf⟩ := bb_g_some hf
                                                    refine z_sld (pc := 867) C hX hv176 dL_law_867 ?_
                                                    obtain ⟨q177, hq177, hf⟩ := bb_b_some hf
                                                    refine z_callVi (pc := 868) (ci := 5) (q0 := 0) (As := [.int (xs (x3 + ((1 : Int32))).toNatClampNeg), .int (xs (x3 + ((2 : Int32))).toNatClampNeg), .int (xs (x3 + ((3 : Int32))).toNatClampNeg), .int (xs (x3 + ((4 : Int32))).toNatClampNeg), .int (xs (x3 + ((5 : Int32))).toNatClampNeg)]) (rest := [.int q171.1]) (ws' := wX4 X.cs h q171.2 ++ wX5 X.cs g q177.2) C (hR.le (by decide)) (c_X5_seen g hq177) (cut_r (bb_cut_self _ _)) bv_X5_seen bm_L_114 rfl rfl rfl rfl (Nat.le_of_ble_eq_true rfl) dL_law_868 ?_
                                                    refine z_icmp_eq (pc := 871) C 1141 dL_law_871 (by decide) (fun hc178 => ?_) (fun hc178 => ?_)
                                                    · have hf := bb_t hf hc178
                                                      exact B_L_law_1141 C hR hr h g a b hE hX R hk18 hf
                                                    · have hf := bb_e hf hc178
                                                      refine z_iconst (pc := 874) C (0 : Int32) dL_law_874 (by decide) ?_
                                                      exact absurd (Option.some.inj hf) (by rw [R.2]; decide)
                                                  · have hf := bb_e hf hc165
                                                    by_cases hc179 : ((xs x3.toNatClampNeg) &&& ((31 : Int32))) = 24
                                                    · have hf := bb_t hf hc179
                                                      refine z_tabIn (pc := 33) C 876 (24 : Int32) dL_law_33 hc179 (by decide) (by decide) rfl (by decide) ?_
                                                      refine z_aload_n (pc := 876) (i := 1) C 1 dL_law_876 rfl rfl ?_
                                                      refine z_aload_n (pc := 877) (i := 0) C 0 dL_law_877 rfl rfl ?_
                                                      refine z_iload_n (pc := 878) (i := 3) C 3 dL_law_878 rfl rfl ?_
                                                      refine z_iconst (pc := 879) C (1 : Int32) dL_law_879 (by decide) ?_
                                                      refine z_iadd (pc := 880) C dL_law_880 ?_
                                                      obtain ⟨hv180, hf⟩ := bb_g_some hf
                                                      refine z_sld (pc := 881) C hX hv180 dL_law_881 ?_
                                                      refine z_aload_n (pc := 882) (i := 0) C 0 dL_law_882 rfl rfl ?_
                                                      refine z_iload_n (pc := 883) (i := 3) C 3 dL_law_883 rfl rfl ?_
                                                      refine z_iconst (pc := 884) C (2 : Int32) dL_law_884 (by decide) ?_
                                                      refine z_iadd (pc := 885) C dL_law_885 ?_
                                                      obtain ⟨hv181, hf⟩ := bb_g_some hf
                                                      refine z_sld (pc := 886) C hX hv181 dL_law_886 ?_
                                                      refine z_aload_n (pc := 887) (i := 0) C 0 dL_law_887 rfl rfl ?_
                                                      refine z_iload_n (pc := 888) (i := 3) C 3 dL_law_888 rfl rfl ?_
                                                      refine z_iconst (pc := 889) C (3 : Int32) dL_law_889 (by decide) ?_
                                                      refine z_iadd (pc := 890) C dL_law_890 ?_
                                                      obtain ⟨hv182, hf⟩ := bb_g_some hf
                                                      refine z_sld (pc := 891) C hX hv182 dL_law_891 ?_
                                                      refine z_aload_n (pc := 892) (i := 0) C 0 dL_law_892 rfl rfl ?_
                                                      refine z_iload_n (pc := 893) (i := 3) C 3 dL_law_893 rfl rfl ?_
                                                      refine z_iconst (pc := 894) C (4 : Int32) dL_law_894 (by decide) ?_
                                                      refine z_iadd (pc := 895) C dL_law_895 ?_
                                                      obtain ⟨hv183, hf⟩ := bb_g_some hf
                                                      refine z_sld (pc := 896) C hX hv183 dL_law_896 ?_
                                                      obtain ⟨q184, hq184, hf⟩ := bb_b_some hf
                                                      refine z_callVi (pc := 897) (ci := 4) (q0 := 0) (As := [.int (xs (x3 + ((1 : Int32))).toNatClampNeg), .int (xs (x3 + ((2 : Int32))).toNatClampNeg), .int (xs (x3 + ((3 : Int32))).toNatClampNeg), .int (xs (x3 + ((4 : Int32))).toNatClampNeg)]) (rest := []) (ws' := wX4 X.cs h q184.2 ++ wX5 X.cs g s1) C (hR.le (by decide)) (c_X4_film h hq184) cut_h bv_X4_film bm_L_115 rfl rfl rfl rfl (Nat.le_of_ble_eq_true rfl) dL_law_897 ?_
                                                      refine z_aload_n (pc := 900) (i := 2) C 2 dL_law_900 rfl rfl ?_
                                                      refine z_aload_n (pc := 901) (i := 0) C 0 dL_law_901 rfl rfl ?_
                                                      refine z_iload_n (pc := 902) (i := 3) C 3 dL_law_902 rfl rfl ?_
                                                      refine z_iconst (pc := 903) C (1 : Int32) dL_law_903 (by decide) ?_
                                                      refine z_iadd (pc := 904) C dL_law_904 ?_
                                                      obtain ⟨hv185, hf⟩ := bb_g_some hf
                                                      refine z_sld (pc := 905) C hX hv185 dL_law_905 ?_
                                                      refine z_aload_n (pc := 906) (i := 0) C 0 dL_law_906 rfl rfl ?_
                                                      refine z_iload_n (pc := 907) (i := 3) C 3 dL_law_907 rfl rfl ?_
                                                      refine z_iconst (pc := 908) C (2 : Int32) dL_law_908 (by decide) ?_
                                                      refine z_iadd (pc := 909) C dL_law_909 ?_
                                                      obtain ⟨hv186, hf⟩ := bb_g_some hf
                                                      refine z_sld (pc := 910) C hX hv186 dL_law_910 ?_
                                                      refine z_aload_n (pc := 911) (i := 0) C 0 dL_law_911 rfl rfl ?_
                                                      refine z_iload_n (pc := 912) (i := 3) C 3 dL_law_912 rfl rfl ?_
                                                      refine z_iconst (pc := 913) C (3 : Int32) dL_law_913 (by decide) ?_
                                                      refine z_iadd (pc := 914) C dL_law_914 ?_
                                                      obtain ⟨hv187, hf⟩ := bb_g_some hf
                                                      refine z_sld (pc := 915) C hX hv187 dL_law_915 ?_
                                                      refine z_aload_n (pc := 916) (i := 0) C 0 dL_law_916 rfl rfl ?_
                                                      refine z_iload_n (pc := 917) (i := 3) C 3 dL_law_917 rfl rfl ?_
                                                      refine z_iconst (pc := 918) C (4 : Int32) dL_law_918 (by decide) ?_
                                                      refine z_iadd (pc := 919) C dL_law_919 ?_
                                                      obtain ⟨hv188, hf⟩ := bb_g_some hf
                                                      refine z_sld (pc := 920) C hX hv188 dL_law_920 ?_
                                                      obtain ⟨q189, hq189, hf⟩ := bb_b_some hf
                                                      refine z_callVi (pc := 921) (ci := 5) (q0 := 0) (As := [.int (xs (x3 + ((1 : Int32))).toNatClampNeg), .int (xs (x3 + ((2 : Int32))).toNatClampNeg), .int (xs (x3 + ((3 : Int32))).toNatClampNeg), .int (xs (x3 + ((4 : Int32))).toNatClampNeg)]) (rest := [.int q184.1]) (ws' := wX4 X.cs h q184.2 ++ wX5 X.cs g q189.2) C (hR.le (by decide)) (c_X5_film g hq189) (cut_r (bb_cut_self _ _)) bv_X5_film bm_L_118 rfl rfl rfl rfl (Nat.le_of_ble_eq_true rfl) dL_law_921 ?_
                                                      refine z_icmp_eq (pc := 924) C 1141 dL_law_924 (by decide) (fun hc190 => ?_) (fun hc190 => ?_)
                                                      · have hf := bb_t hf hc190
                                                        exact B_L_law_1141 C hR hr h g a b hE hX R hk18 hf
                                                      · have hf := bb_e hf hc190
                                                        refine z_iconst (pc := 927) C (0 : Int32) dL_law_927 (by decide) ?_
                                                        exact absurd (Option.some.inj hf) (by rw [R.2]; decide)
                                                    · have hf := bb_e hf hc179
                                                      by_cases hc191 : ((xs x3.toNatClampNeg) &&& ((31 : Int32))) = 25
                                                      · have hf := bb_t hf hc191
                                                        refine z_tabIn (pc := 33) C 929 (25 : Int32) dL_law_33 hc191 (by decide) (by decide) rfl (by decide) ?_
                                                        refine z_aload_n (pc := 929) (i := 1) C 1 dL_law_929 rfl rfl ?_
                                                        refine z_aload_n (pc := 930) (i := 0) C 0 dL_law_930 rfl rfl ?_
                                                        refine z_iload_n (pc := 931) (i := 3) C 3 dL_law_931 rfl rfl ?_
                                                        refine z_iconst (pc := 932) C (1 : Int32) dL_law_932 (by decide) ?_
                                                        refine z_iadd (pc := 933) C dL_law_933 ?_
                                                        obtain ⟨hv192, hf⟩ := bb_g_some hf
                                                        refine z_sld (pc := 934) C hX hv192 dL_law_934 ?_
                                                        refine z_aload_n (pc := 935) (i := 0) C 0 dL_law_935 rfl rfl ?_
                                                        refine z_iload_n (pc := 936) (i := 3) C 3 dL_law_936 rfl rfl ?_
                                                        refine z_iconst (pc := 937) C (2 : Int32) dL_law_937 (by decide) ?_
                                                        refine z_iadd (pc := 938) C dL_law_938 ?_
                                                        obtain ⟨hv193, hf⟩ := bb_g_some hf
                                                        refine z_sld (pc := 939) C hX hv193 dL_law_939 ?_
                                                        refine z_aload_n (pc := 940) (i := 0) C 0 dL_law_940 rfl rfl ?_
                                                        refine z_iload_n (pc := 941) (i := 3) C 3 dL_law_941 rfl rfl ?_
                                                        refine z_iconst (pc := 942) C (3 : Int32) dL_law_942 (by decide) ?_
                                                        refine z_iadd (pc := 943) C dL_law_943 ?_
                                                        obtain ⟨hv194, hf⟩ := bb_g_some hf
                                                        refine z_sld (pc := 944) C hX hv194 dL_law_944 ?_
                                                        obtain ⟨q195, hq195, hf⟩ := bb_b_some hf
                                                        refine z_callVi (pc := 945) (ci := 4) (q0 := 0) (As := [.int (xs (x3 + ((1 : Int32))).toNatClampNeg), .int (xs (x3 + ((2 : Int32))).toNatClampNeg), .int (xs (x3 + ((3 : Int32))).toNatClampNeg)]) (rest := []) (ws' := wX4 X.cs h q195.2 ++ wX5 X.cs g s1) C (hR.le (by decide)) (c_X4_sheet h hq195) cut_h bv_X4_sheet bm_L_119 rfl rfl rfl rfl (Nat.le_of_ble_eq_true rfl) dL_law_945 ?_
                                                        refine z_aload_n (pc := 948) (i := 2) C 2 dL_law_948 rfl rfl ?_
                                                        refine z_aload_n (pc := 949) (i := 0) C 0 dL_law_949 rfl rfl ?_
                                                        refine z_iload_n (pc := 950) (i := 3) C 3 dL_law_950 rfl rfl ?_
                                                        refine z_iconst (pc := 951) C (1 : Int32) dL_law_951 (by decide) ?_
                                                        refine z_iadd (pc := 952) C dL_law_952 ?_
                                                        obtain ⟨hv196, hf⟩ := bb_g_some hf
                                                        refine z_sld (pc := 953) C hX hv196 dL_law_953 ?_
                                                        refine z_aload_n (pc := 954) (i := 0) C 0 dL_law_954 rfl rfl ?_
                                                        refine z_iload_n (pc := 955) (i := 3) C 3 dL_law_955 rfl rfl ?_
                                                        refine z_iconst (pc := 956) C (2 : Int32) dL_law_956 (by decide) ?_
                                                        refine z_iadd (pc := 957) C dL_law_957 ?_
                                                        obtain ⟨hv197, hf⟩ := bb_g_some hf
                                                        refine z_sld (pc := 958) C hX hv197 dL_law_958 ?_
                                                        refine z_aload_n (pc := 959) (i := 0) C 0 dL_law_959 rfl rfl ?_
                                                        refine z_iload_n (pc := 960) (i := 3) C 3 dL_law_960 rfl rfl ?_
                                                        refine z_iconst (pc := 961) C (3 : Int32) dL_law_961 (by decide) ?_
                                                        refine z_iadd (pc := 962) C dL_law_962 ?_
                                                        obtain ⟨hv198, hf⟩ := bb_g_some hf
                                                        refine z_sld (pc := 963) C hX hv198 dL_law_963 ?_
                                                        obtain ⟨q199, hq199, hf⟩ := bb_b_some hf
                                                        refine z_callVi (pc := 964) (ci := 5) (q0 := 0) (As := [.int (xs (x3 + ((1 : Int32))).toNatClampNeg), .int (xs (x3 + ((2 : Int32))).toNatClampNeg), .int (xs (x3 + ((3 : Int32))).toNatClampNeg)]) (rest := [.int q195.1]) (ws' := wX4 X.cs h q195.2 ++ wX5 X.cs g q199.2) C (hR.le (by decide)) (c_X5_sheet g hq199) (cut_r (bb_cut_self _ _)) bv_X5_sheet bm_L_122 rfl rfl rfl rfl (Nat.le_of_ble_eq_true rfl) dL_law_964 ?_
                                                        refine z_icmp_eq (pc := 967) C 1141 dL_law_967 (by decide) (fun hc200 => ?_) (fun hc200 => ?_)
                                                        · have hf := bb_t hf hc200
                                                          exact B_L_law_1141 C hR hr h g a b hE hX R hk18 hf
                                                        · have hf := bb_e hf hc200
                                                          refine z_iconst (pc := 970) C (0 : Int32) dL_law_970 (by decide) ?_
                                                          exact absurd (Option.some.inj hf) (by rw [R.2]; decide)
                                                      · have hf := bb_e hf hc191
                                                        by_cases hc201 : ((xs x3.toNatClampNeg) &&& ((31 : Int32))) = 26
                                                        · have hf := bb_t hf hc201
                                                          refine z_tabIn (pc := 33) C 972 (26 : Int32) dL_law_33 hc201 (by decide) (by decide) rfl (by decide) ?_
                                                          refine z_aload_n (pc := 972) (i := 1) C 1 dL_law_972 rfl rfl ?_
                                                          refine z_aload_n (pc := 973) (i := 0) C 0 dL_law_973 rfl rfl ?_
                                                          refine z_iload_n (pc := 974) (i := 3) C 3 dL_law_974 rfl rfl ?_
                                                          refine z_iconst (pc := 975) C (1 : Int32) dL_law_975 (by decide) ?_
                                                          refine z_iadd (pc := 976) C dL_law_976 ?_
                                                          obtain ⟨hv202, hf⟩ := bb_g_some hf
                                                          refine z_sld (pc := 977) C hX hv202 dL_law_977 ?_
                                                          obtain ⟨q203, hq203, hf⟩ := bb_b_some hf
                                                          refine z_callVi (pc := 978) (ci := 4) (q0 := 0) (As := [.int (xs (x3 + ((1 : Int32))).toNatClampNeg)]) (rest := []) (ws' := wX4 X.cs h q203.2 ++ wX5 X.cs g s1) C (hR.le (by decide)) (c_X4_drop h hq203) cut_h bv_X4_drop bm_L_123 rfl rfl rfl rfl (Nat.le_of_ble_eq_true rfl) dL_law_978 ?_
                                                          refine z_aload_n (pc := 981) (i := 2) C 2 dL_law_981 rfl rfl ?_
                                                          refine z_aload_n (pc := 982) (i := 0) C 0 dL_law_982 rfl rfl ?_
                                                          refine z_iload_n (pc := 983) (i := 3) C 3 dL_law_983 rfl rfl ?_
                                                          refine z_iconst (pc := 984) C (1 : Int32) dL_law_984 (by decide) ?_
                                                          refine z_iadd (pc := 985) C dL_law_985 ?_
                                                          obtain ⟨hv204, hf⟩ := bb_g_some hf
                                                          refine z_sld (pc := 986) C hX hv204 dL_law_986 ?_
                                                          obtain ⟨q205, hq205, hf⟩ := bb_b_some hf
                                                          refine z_callVi (pc := 987) (ci := 5) (q0 := 0) (As := [.int (xs (x3 + ((1 : Int32))).toNatClampNeg)]) (rest := [.int q203.1]) (ws' := wX4 X.cs h q203.2 ++ wX5 X.cs g q205.2) C (hR.le (by decide)) (c_X5_drop g hq205) (cut_r (bb_cut_self _ _)) bv_X5_drop bm_L_126 rfl rfl rfl rfl (Nat.le_of_ble_eq_true rfl) dL_law_987 ?_
                                                          refine z_icmp_eq (pc := 990) C 1141 dL_law_990 (by decide) (fun hc206 => ?_) (fun hc206 => ?_)
                                                          · have hf := bb_t hf hc206
                                                            exact B_L_law_1141 C hR hr h g a b hE hX R hk18 hf
                                                          · have hf := bb_e hf hc206
                                                            refine z_iconst (pc := 993) C (0 : Int32) dL_law_993 (by decide) ?_
                                                            exact absurd (Option.some.inj hf) (by rw [R.2]; decide)
                                                        · have hf := bb_e hf hc201
                                                          by_cases hc207 : ((xs x3.toNatClampNeg) &&& ((31 : Int32))) = 27
                                                          · have hf := bb_t hf hc207
                                                            refine z_tabIn (pc := 33) C 995 (27 : Int32) dL_law_33 hc207 (by decide) (by decide) rfl (by decide) ?_
                                                            refine z_aload_n (pc := 995) (i := 1) C 1 dL_law_995 rfl rfl ?_
                                                            refine z_aload_n (pc := 996) (i := 0) C 0 dL_law_996 rfl rfl ?_
                                                            refine z_iload_n (pc := 997) (i := 3) C 3 dL_law_997 rfl rfl ?_
                                                            refine z_iconst (pc := 998) C (1 : Int32) dL_law_998 (by decide) ?_
                                                            refine z_iadd (pc := 999) C dL_law_999 ?_
                                                            obtain ⟨hv208, hf⟩ := bb_g_some hf
                                                            refine z_sld (pc := 1000) C hX hv208 dL_law_1000 ?_
                                                            refine z_aload_n (pc := 1001) (i := 0) C 0 dL_law_1001 rfl rfl ?_
                                                            refine z_iload_n (pc := 1002) (i := 3) C 3 dL_law_1002 rfl rfl ?_
                                                            refine z_iconst (pc := 1003) C (2 : Int32) dL_law_1003 (by decide) ?_
                                                            refine z_iadd (pc := 1004) C dL_law_1004 ?_
                                                            obtain ⟨hv209, hf⟩ := bb_g_some hf
                                                            refine z_sld (pc := 1005) C hX hv209 dL_law_1005 ?_
                                                            refine z_aload_n (pc := 1006) (i := 0) C 0 dL_law_1006 rfl rfl ?_
                                                            refine z_iload_n (pc := 1007) (i := 3) C 3 dL_law_1007 rfl rfl ?_
                                                            refine z_iconst (pc := 1008) C (3 : Int32) dL_law_1008 (by decide) ?_
                                                            refine z_iadd (pc := 1009) C dL_law_1009 ?_
                                                            obtain ⟨hv210, hf⟩ := bb_g_some hf
                                                            refine z_sld (pc := 1010) C hX hv210 dL_law_1010 ?_
                                                            refine z_aload_n (pc := 1011) (i := 0) C 0 dL_law_1011 rfl rfl ?_
                                                            refine z_iload_n (pc := 1012) (i := 3) C 3 dL_law_1012 rfl rfl ?_
                                                            refine z_iconst (pc := 1013) C (4 : Int32) dL_law_1013 (by decide) ?_
                                                            refine z_iadd (pc := 1014) C dL_law_1014 ?_
                                                            obtain ⟨hv211, hf⟩ := bb_g_some hf
                                                            refine z_sld (pc := 1015) C hX hv211 dL_law_1015 ?_
                                                            refine z_i2l (pc := 1016) C dL_law_1016 ?_
                                                            refine z_bipush (pc := 1017) C (32 : Int32) dL_law_1017 (by decide) ?_
                                                            refine z_lshl (pc := 1019) C dL_law_1019 ?_
                                                            refine z_aload_n (pc := 1020) (i := 0) C 0 dL_law_1020 rfl rfl ?_
                                                            refine z_iload_n (pc := 1021) (i := 3) C 3 dL_law_1021 rfl rfl ?_
                                                            refine z_iconst (pc := 1022) C (5 : Int32) dL_law_1022 (by decide) ?_
                                                            refine z_iadd (pc := 1023) C dL_law_1023 ?_
                                                            obtain ⟨hv212, hf⟩ := bb_g_some hf
                                                            refine z_sld (pc := 1024) C hX hv212 dL_law_1024 ?_
                                                            refine z_i2l (pc := 1025) C dL_law_1025 ?_
                                                            refine z_ldc2_w (pc := 1026) C bk_L_127 dL_law_1026 ?_
                                                            refine z_land (pc := 1029) C dL_law_1029 ?_
                                                            refine z_lor (pc := 1030) C dL_law_1030 ?_
                                                            obtain ⟨q213, hq213, hf⟩ := bb_b_some hf
                                                            refine z_callVi (pc := 1031) (ci := 4) (q0 := 0) (As := [.int (xs (x3 + ((1 : Int32))).toNatClampNeg), .int (xs (x3 + ((2 : Int32))).toNatClampNeg), .int (xs (x3 + ((3 : Int32))).toNatClampNeg), .long ((((xs (x3 + ((4 : Int32))).toNatClampNeg).toInt64) <<< (((32 : Int32)).toInt64 &&& 63)) ||| (((xs (x3 + ((5 : Int32))).toNatClampNeg).toInt64) &&& ((4294967295 : Int64))))]) (rest := []) (ws' := wX4 X.cs h q213.2 ++ wX5 X.cs g s1) C (hR.le (by decide)) (c_X4_item h hq213) cut_h bv_X4_item bm_L_129 rfl rfl rfl rfl (Nat.le_of_ble_eq_true rfl) dL_law_1031 ?_
                                                            refine z_aload_n (pc := 1034) (i := 2) C 2 dL_law_1034 rfl rfl ?_
                                                            refine z_aload_n (pc := 1035) (i := 0) C 0 dL_law_1035 rfl rfl ?_
                                                            refine z_iload_n (pc := 1036) (i := 3) C 3 dL_law_1036 rfl rfl ?_
                                                            refine z_iconst (pc := 1037) C (1 : Int32) dL_law_1037 (by decide) ?_
                                                            refine z_iadd (pc := 1038) C dL_law_1038 ?_
                                                            obtain ⟨hv214, hf⟩ := bb_g_some hf
                                                            refine z_sld (pc := 1039) C hX hv214 dL_law_1039 ?_
                                                            refine z_aload_n (pc := 1040) (i := 0) C 0 dL_law_1040 rfl rfl ?_
                                                            refine z_iload_n (pc := 1041) (i := 3) C 3 dL_law_1041 rfl rfl ?_
                                                            refine z_iconst (pc := 1042) C (2 : Int32) dL_law_1042 (by decide) ?_
                                                            refine z_iadd (pc := 1043) C dL_law_1043 ?_
                                                            obtain ⟨hv215, hf⟩ := bb_g_some hf
                                                            refine z_sld (pc := 1044) C hX hv215 dL_law_1044 ?_
                                                            refine z_aload_n (pc := 1045) (i := 0) C 0 dL_law_1045 rfl rfl ?_
                                                            refine z_iload_n (pc := 1046) (i := 3) C 3 dL_law_1046 rfl rfl ?_
                                                            refine z_iconst (pc := 1047) C (3 : Int32) dL_law_1047 (by decide) ?_
                                                            refine z_iadd (pc := 1048) C dL_law_1048 ?_
                                                            obtain ⟨hv216, hf⟩ := bb_g_some hf
                                                            refine z_sld (pc := 1049) C hX hv216 dL_law_1049 ?_
                                                            refine z_aload_n (pc := 1050) (i := 0) C 0 dL_law_1050 rfl rfl ?_
                                                            refine z_iload_n (pc := 1051) (i := 3) C 3 dL_law_1051 rfl rfl ?_
                                                            refine z_iconst (pc := 1052) C (4 : Int32) dL_law_1052 (by decide) ?_
                                                            refine z_iadd (pc := 1053) C dL_law_1053 ?_
                                                            obtain ⟨hv217, hf⟩ := bb_g_some hf
                                                            refine z_sld (pc := 1054) C hX hv217 dL_law_1054 ?_
                                                            refine z_i2l (pc := 1055) C dL_law_1055 ?_
                                                            refine z_bipush (pc := 1056) C (32 : Int32) dL_law_1056 (by decide) ?_
                                                            refine z_lshl (pc := 1058) C dL_law_1058 ?_
                                                            refine z_aload_n (pc := 1059) (i := 0) C 0 dL_law_1059 rfl rfl ?_
                                                            refine z_iload_n (pc := 1060) (i := 3) C 3 dL_law_1060 rfl rfl ?_
                                                            refine z_iconst (pc := 1061) C (5 : Int32) dL_law_1061 (by decide) ?_
                                                            refine z_iadd (pc := 1062) C dL_law_1062 ?_
                                                            obtain ⟨hv218, hf⟩ := bb_g_some hf
                                                            refine z_sld (pc := 1063) C hX hv218 dL_law_1063 ?_
                                                            refine z_i2l (pc := 1064) C dL_law_1064 ?_
                                                            refine z_ldc2_w (pc := 1065) C bk_L_127 dL_law_1065 ?_
                                                            refine z_land (pc := 1068) C dL_law_1068 ?_
                                                            refine z_lor (pc := 1069) C dL_law_1069 ?_
                                                            obtain ⟨q219, hq219, hf⟩ := bb_b_some hf
                                                            refine z_callVi (pc := 1070) (ci := 5) (q0 := 0) (As := [.int (xs (x3 + ((1 : Int32))).toNatClampNeg), .int (xs (x3 + ((2 : Int32))).toNatClampNeg), .int (xs (x3 + ((3 : Int32))).toNatClampNeg), .long ((((xs (x3 + ((4 : Int32))).toNatClampNeg).toInt64) <<< (((32 : Int32)).toInt64 &&& 63)) ||| (((xs (x3 + ((5 : Int32))).toNatClampNeg).toInt64) &&& ((4294967295 : Int64))))]) (rest := [.int q213.1]) (ws' := wX4 X.cs h q213.2 ++ wX5 X.cs g q219.2) C (hR.le (by decide)) (c_X5_item g hq219) (cut_r (bb_cut_self _ _)) bv_X5_item bm_L_133 rfl rfl rfl rfl (Nat.le_of_ble_eq_true rfl) dL_law_1070 ?_
                                                            refine z_icmp_eq (pc := 1073) C 1141 dL_law_1073 (by decide) (fun hc220 => ?_) (fun hc220 => ?_)
                                                            · have hf := bb_t hf hc220
                                                              exact B_L_law_1141 C hR hr h g a b hE hX R hk18 hf
                                                            · have hf := bb_e hf hc220
                                                              refine z_iconst (pc := 1076) C (0 : Int32) dL_law_1076 (by decide) ?_
                                                              exact absurd (Option.some.inj hf) (by rw [R.2]; decide)
                                                          · have hf := bb_e hf hc207
                                                            by_cases hc221 : ((xs x3.toNatClampNeg) &&& ((31 : Int32))) = 28
                                                            · have hf := bb_t hf hc221
                                                              refine z_tabIn (pc := 33) C 1078 (28 : Int32) dL_law_33 hc221 (by decide) (by decide) rfl (by decide) ?_
                                                              refine z_aload_n (pc := 1078) (i := 1) C 1 dL_law_1078 rfl rfl ?_
                                                              refine z_aload_n (pc := 1079) (i := 0) C 0 dL_law_1079 rfl rfl ?_
                                                              refine z_iload_n (pc := 1080) (i := 3) C 3 dL_law_1080 rfl rfl ?_
                                                              refine z_iconst (pc := 1081) C (1 : Int32) dL_law_1081 (by decide) ?_
                                                              refine z_iadd (pc := 1082) C dL_law_1082 ?_
                                                              obtain ⟨hv222, hf⟩ := bb_g_some hf
                                                              refine z_sld (pc := 1083) C hX hv222 dL_law_1083 ?_
                                                              refine z_aload_n (pc := 1084) (i := 0) C 0 dL_law_1084 rfl rfl ?_
                                                              refine z_iload_n (pc := 1085) (i := 3) C 3 dL_law_1085 rfl rfl ?_
                                                              refine z_iconst (pc := 1086) C (2 : Int32) dL_law_1086 (by decide) ?_
                                                              refine z_iadd (pc := 1087) C dL_law_1087 ?_
                                                              obtain ⟨hv223, hf⟩ := bb_g_some hf
                                                              refine z_sld (pc := 1088) C hX hv223 dL_law_1088 ?_
                                                              refine z_aload_n (pc := 1089) (i := 0) C 0 dL_law_1089 rfl rfl ?_
                                                              refine z_iload_n (pc := 1090) (i := 3) C 3 dL_law_1090 rfl rfl ?_
                                                              refine z_iconst (pc := 1091) C (3 : Int32) dL_law_1091 (by decide) ?_
                                                              refine z_iadd (pc := 1092) C dL_law_1092 ?_
                                                              obtain ⟨hv224, hf⟩ := bb_g_some hf
                                                              refine z_sld (pc := 1093) C hX hv224 dL_law_1093 ?_
                                                              refine z_aload_n (pc := 1094) (i := 0) C 0 dL_law_1094 rfl rfl ?_
                                                              refine z_iload_n (pc := 1095) (i := 3) C 3 dL_law_1095 rfl rfl ?_
                                                              refine z_iconst (pc := 1096) C (4 : Int32) dL_law_1096 (by decide) ?_
                                                              refine z_iadd (pc := 1097) C dL_law_1097 ?_
                                                              obtain ⟨hv225, hf⟩ := bb_g_some hf
                                                              refine z_sld (pc := 1098) C hX hv225 dL_law_1098 ?_
                                                              refine z_aload_n (pc := 1099) (i := 0) C 0 dL_law_1099 rfl rfl ?_
                                                              refine z_iload_n (pc := 1100) (i := 3) C 3 dL_law_1100 rfl rfl ?_
                                                              refine z_iconst (pc := 1101) C (5 : Int32) dL_law_1101 (by decide) ?_
                                                              refine z_iadd (pc := 1102) C dL_law_1102 ?_
                                                              obtain ⟨hv226, hf⟩ := bb_g_some hf
                                                              refine z_sld (pc := 1103) C hX hv226 dL_law_1103 ?_
                                                              obtain ⟨q227, hq227, hf⟩ := bb_b_some hf
                                                              refine z_callVi (pc := 1104) (ci := 4) (q0 := 0) (As := [.int (xs (x3 + ((1 : Int32))).toNatClampNeg), .int (xs (x3 + ((2 : Int32))).toNatClampNeg), .int (xs (x3 + ((3 : Int32))).toNatClampNeg), .int (xs (x3 + ((4 : Int32))).toNatClampNeg), .int (xs (x3 + ((5 : Int32))).toNatClampNeg)]) (rest := []) (ws' := wX4 X.cs h q227.2 ++ wX5 X.cs g s1) C (hR.le (by decide)) (c_X4_copy h hq227) cut_h bv_X4_copy bm_L_134 rfl rfl rfl rfl (Nat.le_of_ble_eq_true rfl) dL_law_1104 ?_
                                                              refine z_aload_n (pc := 1107) (i := 2) C 2 dL_law_1107 rfl rfl ?_
                                                              refine z_aload_n (pc := 1108) (i := 0) C 0 dL_law_1108 rfl rfl ?_
                                                              refine z_iload_n (pc := 1109) (i := 3) C 3 dL_law_1109 rfl rfl ?_
                                                              refine z_iconst (pc := 1110) C (1 : Int32) dL_law_1110 (by decide) ?_
                                                              refine z_iadd (pc := 1111) C dL_law_1111 ?_
                                                              obtain ⟨hv228, hf⟩ := bb_g_some hf
                                                              refine z_sld (pc := 1112) C hX hv228 dL_law_1112 ?_
                                                              refine z_aload_n (pc := 1113) (i := 0) C 0 dL_law_1113 rfl rfl ?_
                                                              refine z_iload_n (pc := 1114) (i := 3) C 3 dL_law_1114 rfl rfl ?_
                                                              refine z_iconst (pc := 1115) C (2 : Int32) dL_law_1115 (by decide) ?_
                                                              refine z_iadd (pc := 1116) C dL_law_1116 ?_
                                                              obtain ⟨hv229, hf⟩ := bb_g_some hf
                                                              refine z_sld (pc := 1117) C hX hv229 dL_law_1117 ?_
                                                              refine z_aload_n (pc := 1118) (i := 0) C 0 dL_law_1118 rfl rfl ?_
                                                              refine z_iload_n (pc := 1119) (i := 3) C 3 dL_law_1119 rfl rfl ?_
                                                              refine z_iconst (pc := 1120) C (3 : Int32) dL_law_1120 (by decide) ?_
                                                              refine z_iadd (pc := 1121) C dL_law_1121 ?_
                                                              obtain ⟨hv230, hf⟩ := bb_g_some hf
                                                              refine z_sld (pc := 1122) C hX hv230 dL_law_1122 ?_
                                                              refine z_aload_n (pc := 1123) (i := 0) C 0 dL_law_1123 rfl rfl ?_
                                                              refine z_iload_n (pc := 1124) (i := 3) C 3 dL_law_1124 rfl rfl ?_
                                                              refine z_iconst (pc := 1125) C (4 : Int32) dL_law_1125 (by decide) ?_
                                                              refine z_iadd (pc := 1126) C dL_law_1126 ?_
                                                              obtain ⟨hv231, hf⟩ := bb_g_some hf
                                                              refine z_sld (pc := 1127) C hX hv231 dL_law_1127 ?_
                                                              refine z_aload_n (pc := 1128) (i := 0) C 0 dL_law_1128 rfl rfl ?_
                                                              refine z_iload_n (pc := 1129) (i := 3) C 3 dL_law_1129 rfl rfl ?_
                                                              refine z_iconst (pc := 1130) C (5 : Int32) dL_law_1130 (by decide) ?_
                                                              refine z_iadd (pc := 1131) C dL_law_1131 ?_
                                                              obtain ⟨hv232, hf⟩ := bb_g_some hf
                                                              refine z_sld (pc := 1132) C hX hv232 dL_law_1132 ?_
                                                              obtain ⟨q233, hq233, hf⟩ := bb_b_some hf
                                                              refine z_callVi (pc := 1133) (ci := 5) (q0 := 0) (As := [.int (xs (x3 + ((1 : Int32))).toNatClampNeg), .int (xs (x3 + ((2 : Int32))).toNatClampNeg), .int (xs (x3 + ((3 : Int32))).toNatClampNeg), .int (xs (x3 + ((4 : Int32))).toNatClampNeg), .int (xs (x3 + ((5 : Int32))).toNatClampNeg)]) (rest := [.int q227.1]) (ws' := wX4 X.cs h q227.2 ++ wX5 X.cs g q233.2) C (hR.le (by decide)) (c_X5_copy g hq233) (cut_r (bb_cut_self _ _)) bv_X5_copy bm_L_137 rfl rfl rfl rfl (Nat.le_of_ble_eq_true rfl) dL_law_1133 ?_
                                                              refine z_icmp_eq (pc := 1136) C 1141 dL_law_1136 (by decide) (fun hc234 => ?_) (fun hc234 => ?_)
                                                              · have hf := bb_t hf hc234
                                                                exact B_L_law_1141 C hR hr h g a b hE hX R hk18 hf
                                                              · have hf := bb_e hf hc234
                                                                refine z_iconst (pc := 1139) C (0 : Int32) dL_law_1139 (by decide) ?_
                                                                exact absurd (Option.some.inj hf) (by rw [R.2]; decide)
                                                            · have hf := bb_e hf hc221
                                                              refine z_tabOut (pc := 33) C 1141 dL_law_33 (by have a0 := lv_neT hc3 (show (0 : Int32).toInt = 0 by decide); have a1 := lv_neT hc11 (show (1 : Int32).toInt = 1 by decide); have a2 := lv_neT hc23 (show (2 : Int32).toInt = 2 by decide); have a3 := lv_neT hc31 (show (3 : Int32).toInt = 3 by decide); have a4 := lv_neT hc41 (show (4 : Int32).toInt = 4 by decide); have a5 := lv_neT hc47 (show (5 : Int32).toInt = 5 by decide); have a6 := lv_neT hc51 (show (6 : Int32).toInt = 6 by decide); have a7 := lv_neT hc57 (show (7 : Int32).toInt = 7 by decide); have a8 := lv_neT hc63 (show (8 : Int32).toInt = 8 by decide); have a9 := lv_neT hc71 (show (9 : Int32).toInt = 9 by decide); have a10 := lv_neT hc77 (show (10 : Int32).toInt = 10 by decide); have a11 := lv_neT hc83 (show (11 : Int32).toInt = 11 by decide); have a12 := lv_neT hc87 (show (12 : Int32).toInt = 12 by decide); have a13 := lv_neT hc93 (show (13 : Int32).toInt = 13 by decide); have a14 := lv_neT hc101 (show (14 : Int32).toInt = 14 by decide); have a15 := lv_neT hc107 (show (15 : Int32).toInt = 15 by decide); have a16 := lv_neT hc115 (show (16 : Int32).toInt = 16 by decide); have a17 := lv_neT hc123 (show (17 : Int32).toInt = 17 by decide); have a18 := lv_neT hc131 (show (18 : Int32).toInt = 18 by decide); have a19 := lv_neT hc139 (show (19 : Int32).toInt = 19 by decide); have a20 := lv_neT hc147 (show (20 : Int32).toInt = 20 by decide); have a21 := lv_neT hc157 (show (21 : Int32).toInt = 21 by decide); have a22 := lv_neT hc161 (show (22 : Int32).toInt = 22 by decide); have a23 := lv_neT hc165 (show (23 : Int32).toInt = 23 by decide); have a24 := lv_neT hc179 (show (24 : Int32).toInt = 24 by decide); have a25 := lv_neT hc191 (show (25 : Int32).toInt = 25 by decide); have a26 := lv_neT hc201 (show (26 : Int32).toInt = 26 by decide); have a27 := lv_neT hc207 (show (27 : Int32).toInt = 27 by decide); have a28 := lv_neT hc221 (show (28 : Int32).toInt = 28 by decide); omega) (by decide) ?_
                                                              exact B_L_law_1141 C hR hr h g a b hE hX R hk18 hf
theorem B_L_law_18 {X : bb_X} (C : bb_C X RL cL_law 4) (hR : bb_r X 8) (hr : X.meth.sig.returnType = (some .boolean)) (h : Nat → Nat → Nat) (g : Nat → Nat) (a b : Nat) (hE : bb_S a b X.A X.s X.s.heap) {c0 L : Nat} {xs : Nat → Int32} (hX : bb_scr X c0 L xs) {z : Int32} (R : bb_L X ∧ z = 1) : ∀ (n : Nat) (s0 : bb_H) (s1 : bb_O) (x3 : Int32), F_L_law_18 L xs n s0 s1 x3 = some z → bb_Z X 4 (wX4 X.cs h s0 ++ wX5 X.cs g s1) 18 [(0, .ref c0), (1, .ref (h 5 0)), (2, .ref (g 0)), (3, .int x3)] [] := by
  intro n
  induction n with
  | zero =>
    intro s0 s1 x3 hf
    cases hf
  | succ n ih =>
    intro s0 s1 x3 hf
    exact A_L_law_18 C hR hr h g a b hE hX R  ih hf
