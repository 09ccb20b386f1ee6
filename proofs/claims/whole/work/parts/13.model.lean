/-! X5_in: reads, level 1 -/
noncomputable def F_X5_in_18 (y0 : Int32) : Option Int32 := bb_g (bb_z y0) (some y0)
set_option maxHeartbeats 4000000 in
set_option maxRecDepth 100000 in
theorem B_X5_in_18 {X : bb_X} (C : bb_C X RX5 cX5_in 6) (hR : bb_r X 1) (hr : X.meth.sig.returnType = (some .boolean)) {z : Int32} (R : bb_R X (some (.int z)) ([])) {y0 : Int32} (hf : F_X5_in_18 y0 = some z) : bb_Z X 6 ([]) 18 [] [.int y0] := by
  obtain ⟨hz1, hf⟩ := bb_g_some hf
  obtain rfl := Option.some.inj hf
  exact z_zret (pc := 18) C hr (bb_nz hz1) R dX5_in_18
noncomputable def F_X5_in_17  : Option Int32 := F_X5_in_18 ((0 : Int32))
set_option maxHeartbeats 4000000 in
set_option maxRecDepth 100000 in
theorem B_X5_in_17 {X : bb_X} (C : bb_C X RX5 cX5_in 6) (hR : bb_r X 1) (hr : X.meth.sig.returnType = (some .boolean)) {z : Int32} (R : bb_R X (some (.int z)) ([]))  (hf : F_X5_in_17  = some z) : bb_Z X 6 ([]) 17 [] [] := by
  refine z_iconst (pc := 17) C (0 : Int32) dX5_in_17 (by decide) ?_
  exact B_X5_in_18 C hR hr  R  hf
noncomputable def F_X5_in_0 (x0 : Int64) (x2 : Int64) (x4 : Int64) : Option Int32 := if (lg_cmp x0 x2) < 0 then F_X5_in_17 else (if 0 < (lg_cmp x0 x4) then F_X5_in_17 else (F_X5_in_18 ((1 : Int32))))
set_option maxHeartbeats 4000000 in
set_option maxRecDepth 100000 in
theorem B_X5_in_0 {X : bb_X} (C : bb_C X RX5 cX5_in 6) (hR : bb_r X 1) (hr : X.meth.sig.returnType = (some .boolean)) {z : Int32} (R : bb_R X (some (.int z)) ([])) {x0 : Int64} {x2 : Int64} {x4 : Int64} (hf : F_X5_in_0 x0 x2 x4 = some z) : bb_Z X 6 ([]) 0 [(0, .long x0), (2, .long x2), (4, .long x4)] [] := by
  refine z_lload_n (pc := 0) (i := 0) C 0 dX5_in_0 rfl rfl ?_
  refine z_lload_n (pc := 1) (i := 2) C 1 dX5_in_1 rfl rfl ?_
  refine z_lcmp (pc := 2) C dX5_in_2 ?_
  refine z_if_lt (pc := 3) C 17 dX5_in_3 (by decide) (fun hc1 => ?_) (fun hc1 => ?_)
  · have hf := bb_t hf hc1
    refine z_lv [] rfl ?_
    exact B_X5_in_17 C hR hr  R  hf
  · have hf := bb_e hf hc1
    refine z_lload_n (pc := 6) (i := 0) C 0 dX5_in_6 rfl rfl ?_
    refine z_lload (pc := 7) C 2 dX5_in_7 rfl ?_
    refine z_lcmp (pc := 9) C dX5_in_9 ?_
    refine z_if_gt (pc := 10) C 17 dX5_in_10 (by decide) (fun hc2 => ?_) (fun hc2 => ?_)
    · have hf := bb_t hf hc2
      refine z_lv [] rfl ?_
      exact B_X5_in_17 C hR hr  R  hf
    · have hf := bb_e hf hc2
      refine z_iconst (pc := 13) C (1 : Int32) dX5_in_13 (by decide) ?_
      refine z_goto (pc := 14) C 18 dX5_in_14 (by decide) ?_
      refine z_lv [] rfl ?_
      exact B_X5_in_18 C hR hr  R  hf
theorem c_X5_in {l : Launch} {D : va_G} {cs : Nat → ClassId} {x0 : Int64} {x2 : Int64} {x4 : Int64} {z : Int32} (hf : F_X5_in_0 x0 x2 x4 = some z) : bb_M l yX5_in cX5_in 6 (some .boolean) 1 D cs [.long x0, .long x2, .long x4] (some (.int z)) ([]) ([]) := bb_mg (by decide) rfl (Nat.le_of_ble_eq_true rfl) rfl (fun X hl hD hcs C hR hr R => by
  subst hl
  subst hD
  subst hcs
  exact B_X5_in_0 C hR hr  R hf)
/-! X5_fresh: writes, level 1 -/
noncomputable def F_X5_fresh_40 (s0 : bb_O) : Option (bb_O) := some s0
set_option maxHeartbeats 4000000 in
set_option maxRecDepth 100000 in
theorem B_X5_fresh_40 {X : bb_X} (C : bb_C X RX5 cX5_fresh 4) (hR : bb_r X 1) (hr : X.meth.sig.returnType = none) (h : Nat → Nat) {z : (bb_O)} (R : bb_R X none (wX5 X.cs h z)) {s0 : bb_O} (hf : F_X5_fresh_40 s0 = some z) : bb_Z X 4 (wX5 X.cs h s0) 40 [] [] := by
  obtain rfl := Option.some.inj hf
  exact z_vret (pc := 40) C hr R dX5_fresh_40
noncomputable def F_X5_fresh_29 (k16 : bb_O → Int32 → Option (bb_O)) (s0 : bb_O) (x3 : Int32) : Option (bb_O) := k16 s0 (x3 + 1)
set_option maxHeartbeats 4000000 in
set_option maxRecDepth 100000 in
theorem B_X5_fresh_29 {X : bb_X} (C : bb_C X RX5 cX5_fresh 4) (hR : bb_r X 1) (hr : X.meth.sig.returnType = none) (h : Nat → Nat) {z : (bb_O)} (R : bb_R X none (wX5 X.cs h z)) {k16 : bb_O → Int32 → Option (bb_O)} (hk16 : ∀ (s0 : bb_O) (x3 : Int32), k16 s0 x3 = some z → bb_Z X 4 (wX5 X.cs h s0) 16 [(0, .ref (h 0)), (3, .int x3)] []) {s0 : bb_O} {x3 : Int32} (hf : F_X5_fresh_29 k16 s0 x3 = some z) : bb_Z X 4 (wX5 X.cs h s0) 29 [(0, .ref (h 0)), (3, .int x3)] [] := by
  refine z_iinc (pc := 29) (lv' := [(3, .int (x3 + 1)), (0, .ref (h 0))]) C (x3 + 1) 1 dX5_fresh_29 rfl rfl (by decide) rfl ?_
  refine z_goto (pc := 32) C 16 dX5_fresh_32 (by decide) ?_
  refine z_lv [1, 0] rfl ?_
  exact hk16 _ _ hf
noncomputable def G_X5_fresh_16 (k16 : bb_O → Int32 → Option (bb_O)) (s0 : bb_O) (x3 : Int32) : Option (bb_O) := if ((8 : Int32)) ≤ x3 then (F_X5_fresh_40 (bb_sf s0 9 ((0 : Int32)))) else (bb_g (vp_in x3 39) (F_X5_fresh_29 k16 (bb_sA s0 0 (upd (s0.2.1 0) x3.toNatClampNeg ((0 : Int32)))) x3))
noncomputable def F_X5_fresh_16  : Nat → bb_O → Int32 → Option (bb_O)
  | 0, _, _ => none
  | n + 1, s0, x3 => G_X5_fresh_16  (F_X5_fresh_16  n) s0 x3
set_option maxHeartbeats 4000000 in
set_option maxRecDepth 100000 in
theorem A_X5_fresh_16 {X : bb_X} (C : bb_C X RX5 cX5_fresh 4) (hR : bb_r X 1) (hr : X.meth.sig.returnType = none) (h : Nat → Nat) {z : (bb_O)} (R : bb_R X none (wX5 X.cs h z)) {k16 : bb_O → Int32 → Option (bb_O)} (hk16 : ∀ (s0 : bb_O) (x3 : Int32), k16 s0 x3 = some z → bb_Z X 4 (wX5 X.cs h s0) 16 [(0, .ref (h 0)), (3, .int x3)] []) {s0 : bb_O} {x3 : Int32} (hf : G_X5_fresh_16 k16 s0 x3 = some z) : bb_Z X 4 (wX5 X.cs h s0) 16 [(0, .ref (h 0)), (3, .int x3)] [] := by
  refine z_iload_n (pc := 16) (i := 3) C 1 dX5_fresh_16 rfl rfl ?_
  refine z_bipush (pc := 17) C (8 : Int32) dX5_fresh_17 (by decide) ?_
  refine z_icmp_ge (pc := 19) C 35 dX5_fresh_19 (by decide) (fun hc1 => ?_) (fun hc1 => ?_)
  · have hf := bb_t hf hc1
    refine z_aload_n (pc := 35) (i := 0) C 0 dX5_fresh_35 rfl rfl ?_
    refine z_iconst (pc := 36) C (0 : Int32) dX5_fresh_36 (by decide) ?_
    refine z_put (pc := 37) (ci := 5) (ty := .int) (ws' := wX5 X.cs h (bb_sf s0 9 ((0 : Int32)))) C bi_X5 tyX5_ok nmX5 rfl 0 9 (by decide) rfl bf_X5_45 rfl rfl rfl rfl rfl (Nat.le_of_ble_eq_true rfl) rfl dX5_fresh_37 ?_
    refine z_lv [] rfl ?_
    exact B_X5_fresh_40 C hR hr h R  hf
  · have hf := bb_e hf hc1
    refine z_aload_n (pc := 22) (i := 0) C 0 dX5_fresh_22 rfl rfl ?_
    refine z_get (pc := 23) (ci := 5) C (.ref (h 1)) bi_X5 rfl 0 0 (by decide) rfl bf_X5_7 rfl rfl dX5_fresh_23 ?_
    refine z_iload_n (pc := 26) (i := 3) C 1 dX5_fresh_26 rfl rfl ?_
    refine z_iconst (pc := 27) C (0 : Int32) dX5_fresh_27 (by decide) ?_
    obtain ⟨hv2, hf⟩ := bb_g_some hf
    refine z_iast (pc := 28) (ws' := wX5 X.cs h (bb_sA s0 0 (upd (s0.2.1 0) x3.toNatClampNeg ((0 : Int32))))) C 1 0 (x3.toNatClampNeg) rfl rfl hv2 rfl rfl dX5_fresh_28 ?_
    exact B_X5_fresh_29 C hR hr h R hk16 hf
theorem B_X5_fresh_16 {X : bb_X} (C : bb_C X RX5 cX5_fresh 4) (hR : bb_r X 1) (hr : X.meth.sig.returnType = none) (h : Nat → Nat) {z : (bb_O)} (R : bb_R X none (wX5 X.cs h z)) : ∀ (n : Nat) (s0 : bb_O) (x3 : Int32), F_X5_fresh_16  n s0 x3 = some z → bb_Z X 4 (wX5 X.cs h s0) 16 [(0, .ref (h 0)), (3, .int x3)] [] := by
  intro n
  induction n with
  | zero =>
    intro s0 x3 hf
    cases hf
  | succ n ih =>
    intro s0 x3 hf
    exact A_X5_fresh_16 C hR hr h R  ih hf
noncomputable def F_X5_fresh_14 (s0 : bb_O) : Option (bb_O) := F_X5_fresh_16 bb_N s0 ((2 : Int32))
set_option maxHeartbeats 4000000 in
set_option maxRecDepth 100000 in
theorem B_X5_fresh_14 {X : bb_X} (C : bb_C X RX5 cX5_fresh 4) (hR : bb_r X 1) (hr : X.meth.sig.returnType = none) (h : Nat → Nat) {z : (bb_O)} (R : bb_R X none (wX5 X.cs h z)) {s0 : bb_O} (hf : F_X5_fresh_14 s0 = some z) : bb_Z X 4 (wX5 X.cs h s0) 14 [(0, .ref (h 0))] [] := by
  refine z_iconst (pc := 14) C (2 : Int32) dX5_fresh_14 (by decide) ?_
  refine z_istore_n (pc := 15) (i := 3) (lv' := [(3, .int ((2 : Int32))), (0, .ref (h 0))]) C dX5_fresh_15 rfl (by decide) rfl ?_
  refine z_lv [1, 0] rfl ?_
  exact B_X5_fresh_16 C hR hr h R  bb_N _ _ hf
noncomputable def F_X5_fresh_7 (s0 : bb_O) (x2 : Int32) : Option (bb_O) := F_X5_fresh_14 (bb_sA s0 0 (upd (s0.2.1 0) 1 x2))
set_option maxHeartbeats 4000000 in
set_option maxRecDepth 100000 in
theorem B_X5_fresh_7 {X : bb_X} (C : bb_C X RX5 cX5_fresh 4) (hR : bb_r X 1) (hr : X.meth.sig.returnType = none) (h : Nat → Nat) {z : (bb_O)} (R : bb_R X none (wX5 X.cs h z)) {s0 : bb_O} {x2 : Int32} (hf : F_X5_fresh_7 s0 x2 = some z) : bb_Z X 4 (wX5 X.cs h s0) 7 [(0, .ref (h 0)), (2, .int x2)] [] := by
  refine z_aload_n (pc := 7) (i := 0) C 0 dX5_fresh_7 rfl rfl ?_
  refine z_get (pc := 8) (ci := 5) C (.ref (h 1)) bi_X5 rfl 0 0 (by decide) rfl bf_X5_7 rfl rfl dX5_fresh_8 ?_
  refine z_iconst (pc := 11) C (1 : Int32) dX5_fresh_11 (by decide) ?_
  refine z_iload_n (pc := 12) (i := 2) C 1 dX5_fresh_12 rfl rfl ?_
  refine z_iast (pc := 13) (ws' := wX5 X.cs h (bb_sA s0 0 (upd (s0.2.1 0) 1 x2))) C 1 0 (1) rfl rfl (show ¬ ((1 : Int32) < 0 ∨ 39 ≤ (1 : Int32).toNatClampNeg) by decide) (by decide) rfl dX5_fresh_13 ?_
  refine z_lv [0] rfl ?_
  exact B_X5_fresh_14 C hR hr h R  hf
noncomputable def F_X5_fresh_0 (s0 : bb_O) (x1 : Int32) (x2 : Int32) : Option (bb_O) := F_X5_fresh_7 (bb_sA s0 0 (upd (s0.2.1 0) 0 x1)) x2
set_option maxHeartbeats 4000000 in
set_option maxRecDepth 100000 in
theorem B_X5_fresh_0 {X : bb_X} (C : bb_C X RX5 cX5_fresh 4) (hR : bb_r X 1) (hr : X.meth.sig.returnType = none) (h : Nat → Nat) {z : (bb_O)} (R : bb_R X none (wX5 X.cs h z)) {s0 : bb_O} {x1 : Int32} {x2 : Int32} (hf : F_X5_fresh_0 s0 x1 x2 = some z) : bb_Z X 4 (wX5 X.cs h s0) 0 [(0, .ref (h 0)), (1, .int x1), (2, .int x2)] [] := by
  refine z_aload_n (pc := 0) (i := 0) C 0 dX5_fresh_0 rfl rfl ?_
  refine z_get (pc := 1) (ci := 5) C (.ref (h 1)) bi_X5 rfl 0 0 (by decide) rfl bf_X5_7 rfl rfl dX5_fresh_1 ?_
  refine z_iconst (pc := 4) C (0 : Int32) dX5_fresh_4 (by decide) ?_
  refine z_iload_n (pc := 5) (i := 1) C 1 dX5_fresh_5 rfl rfl ?_
  refine z_iast (pc := 6) (ws' := wX5 X.cs h (bb_sA s0 0 (upd (s0.2.1 0) 0 x1))) C 1 0 (0) rfl rfl (show ¬ ((0 : Int32) < 0 ∨ 39 ≤ (0 : Int32).toNatClampNeg) by decide) (by decide) rfl dX5_fresh_6 ?_
  refine z_lv [0, 2] rfl ?_
  exact B_X5_fresh_7 C hR hr h R  hf
theorem c_X5_fresh {l : Launch} {D : va_G} {cs : Nat → ClassId} (h : Nat → Nat) {s0 : bb_O} {x1 : Int32} {x2 : Int32} {z : (bb_O)} (hf : F_X5_fresh_0 s0 x1 x2 = some z) : bb_M l yX5_fresh cX5_fresh 4 none 1 D cs [.ref (h 0), .int x1, .int x2] none (wX5 cs h s0) (wX5 cs h z) := bb_mg (by decide) rfl (Nat.le_of_ble_eq_true rfl) rfl (fun X hl hD hcs C hR hr R => by
  subst hl
  subst hD
  subst hcs
  exact B_X5_fresh_0 C hR hr h R hf)
/-! X5_cells: reads, level 1 -/
noncomputable def F_X5_cells_0 (s0 : bb_O) : Option Int32 := some ((s0.2.1 0 0) * (s0.2.1 0 1))
set_option maxHeartbeats 4000000 in
set_option maxRecDepth 100000 in
theorem B_X5_cells_0 {X : bb_X} (C : bb_C X RX5 cX5_cells 1) (hR : bb_r X 1) (hr : X.meth.sig.returnType = (some .int)) (h : Nat → Nat) {z : Int32} {s0 : bb_O} (R : bb_R X (some (.int z)) (wX5 X.cs h s0))  (hf : F_X5_cells_0 s0 = some z) : bb_Z X 1 (wX5 X.cs h s0) 0 [(0, .ref (h 0))] [] := by
  refine z_aload_n (pc := 0) (i := 0) C 0 dX5_cells_0 rfl rfl ?_
  refine z_get (pc := 1) (ci := 5) C (.ref (h 1)) bi_X5 rfl 0 0 (by decide) rfl bf_X5_7 rfl rfl dX5_cells_1 ?_
  refine z_iconst (pc := 4) C (0 : Int32) dX5_cells_4 (by decide) ?_
  refine z_iald (pc := 5) C 1 0 (0) rfl rfl (show ¬ ((0 : Int32) < 0 ∨ 39 ≤ (0 : Int32).toNatClampNeg) by decide) (by decide) dX5_cells_5 ?_
  refine z_aload_n (pc := 6) (i := 0) C 0 dX5_cells_6 rfl rfl ?_
  refine z_get (pc := 7) (ci := 5) C (.ref (h 1)) bi_X5 rfl 0 0 (by decide) rfl bf_X5_7 rfl rfl dX5_cells_7 ?_
  refine z_iconst (pc := 10) C (1 : Int32) dX5_cells_10 (by decide) ?_
  refine z_iald (pc := 11) C 1 0 (1) rfl rfl (show ¬ ((1 : Int32) < 0 ∨ 39 ≤ (1 : Int32).toNatClampNeg) by decide) (by decide) dX5_cells_11 ?_
  refine z_imul (pc := 12) C dX5_cells_12 ?_
  obtain rfl := Option.some.inj hf
  exact z_iret (pc := 13) C hr R dX5_cells_13
theorem c_X5_cells {l : Launch} {D : va_G} {cs : Nat → ClassId} (h : Nat → Nat) {s0 : bb_O} {z : Int32} (hf : F_X5_cells_0 s0 = some z) : bb_M l yX5_cells cX5_cells 1 (some .int) 1 D cs [.ref (h 0)] (some (.int z)) (wX5 cs h s0) (wX5 cs h s0) := bb_mg (by decide) rfl (Nat.le_of_ble_eq_true rfl) rfl (fun X hl hD hcs C hR hr R => by
  subst hl
  subst hD
  subst hcs
  exact B_X5_cells_0 C hR hr h R hf)
/-! X5_isPerson: reads, level 2 -/
noncomputable def F_X5_isPerson_0 (s0 : bb_O) (x1 : Int32) : Option Int32 := (F_X5_in_0 (x1.toInt64) ((0 : Int64)) (((s0.2.1 0 2) - ((1 : Int32))).toInt64)).bind (fun q1 => bb_g (bb_z q1) (some q1))
set_option maxHeartbeats 4000000 in
set_option maxRecDepth 100000 in
theorem B_X5_isPerson_0 {X : bb_X} (C : bb_C X RX5 cX5_isPerson 2) (hR : bb_r X 2) (hr : X.meth.sig.returnType = (some .boolean)) (h : Nat → Nat) {z : Int32} {s0 : bb_O} (R : bb_R X (some (.int z)) (wX5 X.cs h s0)) {x1 : Int32} (hf : F_X5_isPerson_0 s0 x1 = some z) : bb_Z X 2 (wX5 X.cs h s0) 0 [(0, .ref (h 0)), (1, .int x1)] [] := by
  refine z_iload_n (pc := 0) (i := 1) C 1 dX5_isPerson_0 rfl rfl ?_
  refine z_i2l (pc := 1) C dX5_isPerson_1 ?_
  refine z_lconst (pc := 2) C (0 : Int64) dX5_isPerson_2 (by decide) ?_
  refine z_aload_n (pc := 3) (i := 0) C 0 dX5_isPerson_3 rfl rfl ?_
  refine z_get (pc := 4) (ci := 5) C (.ref (h 1)) bi_X5 rfl 0 0 (by decide) rfl bf_X5_7 rfl rfl dX5_isPerson_4 ?_
  refine z_iconst (pc := 7) C (2 : Int32) dX5_isPerson_7 (by decide) ?_
  refine z_iald (pc := 8) C 1 0 (2) rfl rfl (show ¬ ((2 : Int32) < 0 ∨ 39 ≤ (2 : Int32).toNatClampNeg) by decide) (by decide) dX5_isPerson_8 ?_
  refine z_iconst (pc := 9) C (1 : Int32) dX5_isPerson_9 (by decide) ?_
  refine z_isub (pc := 10) C dX5_isPerson_10 ?_
  refine z_i2l (pc := 11) C dX5_isPerson_11 ?_
  obtain ⟨q1, hq1, hf⟩ := bb_b_some hf
  refine z_callSi (pc := 12) (As := [.long (x1.toInt64), .long ((0 : Int64)), .long (((s0.2.1 0 2) - ((1 : Int32))).toInt64)]) (rest := []) C (hR.le (by decide)) (c_X5_in hq1) (bb_cut_none _) bv_X5_in bm_X5_49 rfl rfl (Nat.le_of_ble_eq_true rfl) dX5_isPerson_12 ?_
  obtain ⟨hz2, hf⟩ := bb_g_some hf
  obtain rfl := Option.some.inj hf
  exact z_zret (pc := 15) C hr (bb_nz hz2) R dX5_isPerson_15
theorem c_X5_isPerson {l : Launch} {D : va_G} {cs : Nat → ClassId} (h : Nat → Nat) {s0 : bb_O} {x1 : Int32} {z : Int32} (hf : F_X5_isPerson_0 s0 x1 = some z) : bb_M l yX5_isPerson cX5_isPerson 2 (some .boolean) 2 D cs [.ref (h 0), .int x1] (some (.int z)) (wX5 cs h s0) (wX5 cs h s0) := bb_mg (by decide) rfl (Nat.le_of_ble_eq_true rfl) rfl (fun X hl hD hcs C hR hr R => by
  subst hl
  subst hD
  subst hcs
  exact B_X5_isPerson_0 C hR hr h R hf)
/-! X5_told: reads, level 1 -/
noncomputable def F_X5_told_0 (s0 : bb_O) (x1 : Int32) (x2 : Int32) : Option Int32 := bb_g (vp_in ((((9 : Int32)) + (((5 : Int32)) * x1)) + x2) 39) (some (s0.2.1 0 ((((9 : Int32)) + (((5 : Int32)) * x1)) + x2).toNatClampNeg))
set_option maxHeartbeats 4000000 in
set_option maxRecDepth 100000 in
theorem B_X5_told_0 {X : bb_X} (C : bb_C X RX5 cX5_told 3) (hR : bb_r X 1) (hr : X.meth.sig.returnType = (some .int)) (h : Nat → Nat) {z : Int32} {s0 : bb_O} (R : bb_R X (some (.int z)) (wX5 X.cs h s0)) {x1 : Int32} {x2 : Int32} (hf : F_X5_told_0 s0 x1 x2 = some z) : bb_Z X 3 (wX5 X.cs h s0) 0 [(0, .ref (h 0)), (1, .int x1), (2, .int x2)] [] := by
  refine z_aload_n (pc := 0) (i := 0) C 0 dX5_told_0 rfl rfl ?_
  refine z_get (pc := 1) (ci := 5) C (.ref (h 1)) bi_X5 rfl 0 0 (by decide) rfl bf_X5_7 rfl rfl dX5_told_1 ?_
  refine z_bipush (pc := 4) C (9 : Int32) dX5_told_4 (by decide) ?_
  refine z_iconst (pc := 6) C (5 : Int32) dX5_told_6 (by decide) ?_
  refine z_iload_n (pc := 7) (i := 1) C 1 dX5_told_7 rfl rfl ?_
  refine z_imul (pc := 8) C dX5_told_8 ?_
  refine z_iadd (pc := 9) C dX5_told_9 ?_
  refine z_iload_n (pc := 10) (i := 2) C 2 dX5_told_10 rfl rfl ?_
  refine z_iadd (pc := 11) C dX5_told_11 ?_
  obtain ⟨hv1, hf⟩ := bb_g_some hf
  refine z_iald (pc := 12) C 1 0 (((((9 : Int32)) + (((5 : Int32)) * x1)) + x2).toNatClampNeg) rfl rfl hv1 rfl dX5_told_12 ?_
  obtain rfl := Option.some.inj hf
  exact z_iret (pc := 13) C hr R dX5_told_13
theorem c_X5_told {l : Launch} {D : va_G} {cs : Nat → ClassId} (h : Nat → Nat) {s0 : bb_O} {x1 : Int32} {x2 : Int32} {z : Int32} (hf : F_X5_told_0 s0 x1 x2 = some z) : bb_M l yX5_told cX5_told 3 (some .int) 1 D cs [.ref (h 0), .int x1, .int x2] (some (.int z)) (wX5 cs h s0) (wX5 cs h s0) := bb_mg (by decide) rfl (Nat.le_of_ble_eq_true rfl) rfl (fun X hl hD hcs C hR hr R => by
  subst hl
  subst hD
  subst hcs
  exact B_X5_told_0 C hR hr h R hf)
/-! X5_isFree: reads, level 1 -/
noncomputable def F_X5_isFree_18 (s0 : bb_O) (y0 : Int32) : Option Int32 := bb_g (bb_z y0) (some y0)
set_option maxHeartbeats 4000000 in
set_option maxRecDepth 100000 in
theorem B_X5_isFree_18 {X : bb_X} (C : bb_C X RX5 cX5_isFree 2) (hR : bb_r X 1) (hr : X.meth.sig.returnType = (some .boolean)) (h : Nat → Nat) {z : Int32} {s0 : bb_O} (R : bb_R X (some (.int z)) (wX5 X.cs h s0)) {y0 : Int32} (hf : F_X5_isFree_18 s0 y0 = some z) : bb_Z X 2 (wX5 X.cs h s0) 18 [] [.int y0] := by
  obtain ⟨hz1, hf⟩ := bb_g_some hf
  obtain rfl := Option.some.inj hf
  exact z_zret (pc := 18) C hr (bb_nz hz1) R dX5_isFree_18
noncomputable def F_X5_isFree_0 (s0 : bb_O) (x1 : Int32) : Option Int32 := if (((s0.2.1 0 5) >>> (x1 &&& 31)) &&& ((1 : Int32))) = 0 then (F_X5_isFree_18 s0 ((1 : Int32))) else (F_X5_isFree_18 s0 ((0 : Int32)))
set_option maxHeartbeats 4000000 in
set_option maxRecDepth 100000 in
theorem B_X5_isFree_0 {X : bb_X} (C : bb_C X RX5 cX5_isFree 2) (hR : bb_r X 1) (hr : X.meth.sig.returnType = (some .boolean)) (h : Nat → Nat) {z : Int32} {s0 : bb_O} (R : bb_R X (some (.int z)) (wX5 X.cs h s0)) {x1 : Int32} (hf : F_X5_isFree_0 s0 x1 = some z) : bb_Z X 2 (wX5 X.cs h s0) 0 [(0, .ref (h 0)), (1, .int x1)] [] := by
  refine z_aload_n (pc := 0) (i := 0) C 0 dX5_isFree_0 rfl rfl ?_
  refine z_get (pc := 1) (ci := 5) C (.ref (h 1)) bi_X5 rfl 0 0 (by decide) rfl bf_X5_7 rfl rfl dX5_isFree_1 ?_
  refine z_iconst (pc := 4) C (5 : Int32) dX5_isFree_4 (by decide) ?_
  refine z_iald (pc := 5) C 1 0 (5) rfl rfl (show ¬ ((5 : Int32) < 0 ∨ 39 ≤ (5 : Int32).toNatClampNeg) by decide) (by decide) dX5_isFree_5 ?_
  refine z_iload_n (pc := 6) (i := 1) C 1 dX5_isFree_6 rfl rfl ?_
  refine z_ishr (pc := 7) C dX5_isFree_7 ?_
  refine z_iconst (pc := 8) C (1 : Int32) dX5_isFree_8 (by decide) ?_
  refine z_iand (pc := 9) C dX5_isFree_9 ?_
  refine z_if_ne (pc := 10) C 17 dX5_isFree_10 (by decide) (fun hc1 => ?_) (fun hc1 => ?_)
  · have hf := bb_e hf hc1
    refine z_iconst (pc := 17) C (0 : Int32) dX5_isFree_17 (by decide) ?_
    refine z_lv [] rfl ?_
    exact B_X5_isFree_18 C hR hr h R  hf
  · have hf := bb_t hf hc1
    refine z_iconst (pc := 13) C (1 : Int32) dX5_isFree_13 (by decide) ?_
    refine z_goto (pc := 14) C 18 dX5_isFree_14 (by decide) ?_
    refine z_lv [] rfl ?_
    exact B_X5_isFree_18 C hR hr h R  hf
theorem c_X5_isFree {l : Launch} {D : va_G} {cs : Nat → ClassId} (h : Nat → Nat) {s0 : bb_O} {x1 : Int32} {z : Int32} (hf : F_X5_isFree_0 s0 x1 = some z) : bb_M l yX5_isFree cX5_isFree 2 (some .boolean) 1 D cs [.ref (h 0), .int x1] (some (.int z)) (wX5 cs h s0) (wX5 cs h s0) := bb_mg (by decide) rfl (Nat.le_of_ble_eq_true rfl) rfl (fun X hl hD hcs C hR hr R => by
  subst hl
  subst hD
  subst hcs
  exact B_X5_isFree_0 C hR hr h R hf)
/-! X5_apart: reads, level 1 -/
noncomputable def F_X5_apart_14 (y0 : Int32) : Option Int32 := some y0
set_option maxHeartbeats 4000000 in
set_option maxRecDepth 100000 in
theorem B_X5_apart_14 {X : bb_X} (C : bb_C X RX5 cX5_apart 2) (hR : bb_r X 1) (hr : X.meth.sig.returnType = (some .int)) {z : Int32} (R : bb_R X (some (.int z)) ([])) {y0 : Int32} (hf : F_X5_apart_14 y0 = some z) : bb_Z X 2 ([]) 14 [] [.int y0] := by
  obtain rfl := Option.some.inj hf
  exact z_iret (pc := 14) C hr R dX5_apart_14
noncomputable def F_X5_apart_0 (x0 : Int32) (x1 : Int32) : Option Int32 := if x1 ≤ x0 then (F_X5_apart_14 (x0 - x1)) else (F_X5_apart_14 (x1 - x0))
set_option maxHeartbeats 4000000 in
set_option maxRecDepth 100000 in
theorem B_X5_apart_0 {X : bb_X} (C : bb_C X RX5 cX5_apart 2) (hR : bb_r X 1) (hr : X.meth.sig.returnType = (some .int)) {z : Int32} (R : bb_R X (some (.int z)) ([])) {x0 : Int32} {x1 : Int32} (hf : F_X5_apart_0 x0 x1 = some z) : bb_Z X 2 ([]) 0 [(0, .int x0), (1, .int x1)] [] := by
  refine z_iload_n (pc := 0) (i := 0) C 0 dX5_apart_0 rfl rfl ?_
  refine z_iload_n (pc := 1) (i := 1) C 1 dX5_apart_1 rfl rfl ?_
  refine z_icmp_ge (pc := 2) C 11 dX5_apart_2 (by decide) (fun hc1 => ?_) (fun hc1 => ?_)
  · have hf := bb_t hf hc1
    refine z_iload_n (pc := 11) (i := 0) C 0 dX5_apart_11 rfl rfl ?_
    refine z_iload_n (pc := 12) (i := 1) C 1 dX5_apart_12 rfl rfl ?_
    refine z_isub (pc := 13) C dX5_apart_13 ?_
    refine z_lv [] rfl ?_
    exact B_X5_apart_14 C hR hr  R  hf
  · have hf := bb_e hf hc1
    refine z_iload_n (pc := 5) (i := 1) C 1 dX5_apart_5 rfl rfl ?_
    refine z_iload_n (pc := 6) (i := 0) C 0 dX5_apart_6 rfl rfl ?_
    refine z_isub (pc := 7) C dX5_apart_7 ?_
    refine z_goto (pc := 8) C 14 dX5_apart_8 (by decide) ?_
    refine z_lv [] rfl ?_
    exact B_X5_apart_14 C hR hr  R  hf
theorem c_X5_apart {l : Launch} {D : va_G} {cs : Nat → ClassId} {x0 : Int32} {x1 : Int32} {z : Int32} (hf : F_X5_apart_0 x0 x1 = some z) : bb_M l yX5_apart cX5_apart 2 (some .int) 1 D cs [.int x0, .int x1] (some (.int z)) ([]) ([]) := bb_mg (by decide) rfl (Nat.le_of_ble_eq_true rfl) rfl (fun X hl hD hcs C hR hr R => by
  subst hl
  subst hD
  subst hcs
  exact B_X5_apart_0 C hR hr  R hf)
/-! X5_far: reads, level 2 -/
noncomputable def F_X5_far_0 (s0 : bb_O) (x1 : Int32) : Option Int32 := (F_X5_told_0 s0 x1 ((1 : Int32))).bind (fun q1 => bb_g (¬ (s0.2.1 0 1) = 0) (bb_g (¬ (s0.2.1 0 1) = 0) ((F_X5_apart_0 (q1 / (s0.2.1 0 1)) ((s0.2.1 0 3) / (s0.2.1 0 1))).bind (fun q4 => bb_g (¬ (s0.2.1 0 1) = 0) (bb_g (¬ (s0.2.1 0 1) = 0) ((F_X5_apart_0 (q1 % (s0.2.1 0 1)) ((s0.2.1 0 3) % (s0.2.1 0 1))).bind (fun q7 => some (q4 + q7))))))))
set_option maxHeartbeats 4000000 in
set_option maxRecDepth 100000 in
theorem B_X5_far_0 {X : bb_X} (C : bb_C X RX5 cX5_far 4) (hR : bb_r X 2) (hr : X.meth.sig.returnType = (some .int)) (h : Nat → Nat) {z : Int32} {s0 : bb_O} (R : bb_R X (some (.int z)) (wX5 X.cs h s0)) {x1 : Int32} (hf : F_X5_far_0 s0 x1 = some z) : bb_Z X 4 (wX5 X.cs h s0) 0 [(0, .ref (h 0)), (1, .int x1)] [] := by
  refine z_aload_n (pc := 0) (i := 0) C 0 dX5_far_0 rfl rfl ?_
  refine z_iload_n (pc := 1) (i := 1) C 1 dX5_far_1 rfl rfl ?_
  refine z_iconst (pc := 2) C (1 : Int32) dX5_far_2 (by decide) ?_
  obtain ⟨q1, hq1, hf⟩ := bb_b_some hf
  refine z_callVi (pc := 3) (ci := 5) (q0 := 0) (As := [.int x1, .int ((1 : Int32))]) (rest := []) C (hR.le (by decide)) (c_X5_told h hq1) (bb_cut_self _ _) bv_X5_told bm_X5_53 rfl rfl rfl rfl (Nat.le_of_ble_eq_true rfl) dX5_far_3 ?_
  refine z_istore_n (pc := 6) (i := 2) (lv' := [(2, .int q1), (0, .ref (h 0)), (1, .int x1)]) C dX5_far_6 rfl (by decide) rfl ?_
  refine z_aload_n (pc := 7) (i := 0) C 1 dX5_far_7 rfl rfl ?_
  refine z_get (pc := 8) (ci := 5) C (.ref (h 1)) bi_X5 rfl 0 0 (by decide) rfl bf_X5_7 rfl rfl dX5_far_8 ?_
  refine z_iconst (pc := 11) C (3 : Int32) dX5_far_11 (by decide) ?_
  refine z_iald (pc := 12) C 1 0 (3) rfl rfl (show ¬ ((3 : Int32) < 0 ∨ 39 ≤ (3 : Int32).toNatClampNeg) by decide) (by decide) dX5_far_12 ?_
  refine z_istore_n (pc := 13) (i := 3) (lv' := [(3, .int (s0.2.1 0 3)), (2, .int q1), (0, .ref (h 0)), (1, .int x1)]) C dX5_far_13 rfl (by decide) rfl ?_
  refine z_iload_n (pc := 14) (i := 2) C 1 dX5_far_14 rfl rfl ?_
  refine z_aload_n (pc := 15) (i := 0) C 2 dX5_far_15 rfl rfl ?_
  refine z_get (pc := 16) (ci := 5) C (.ref (h 1)) bi_X5 rfl 0 0 (by decide) rfl bf_X5_7 rfl rfl dX5_far_16 ?_
  refine z_iconst (pc := 19) C (1 : Int32) dX5_far_19 (by decide) ?_
  refine z_iald (pc := 20) C 1 0 (1) rfl rfl (show ¬ ((1 : Int32) < 0 ∨ 39 ≤ (1 : Int32).toNatClampNeg) by decide) (by decide) dX5_far_20 ?_
  obtain ⟨hn2, hf⟩ := bb_g_some hf
  refine z_idiv (pc := 21) C dX5_far_21 hn2 ?_
  refine z_iload_n (pc := 22) (i := 3) C 0 dX5_far_22 rfl rfl ?_
  refine z_aload_n (pc := 23) (i := 0) C 2 dX5_far_23 rfl rfl ?_
  refine z_get (pc := 24) (ci := 5) C (.ref (h 1)) bi_X5 rfl 0 0 (by decide) rfl bf_X5_7 rfl rfl dX5_far_24 ?_
  refine z_iconst (pc := 27) C (1 : Int32) dX5_far_27 (by decide) ?_
  refine z_iald (pc := 28) C 1 0 (1) rfl rfl (show ¬ ((1 : Int32) < 0 ∨ 39 ≤ (1 : Int32).toNatClampNeg) by decide) (by decide) dX5_far_28 ?_
  obtain ⟨hn3, hf⟩ := bb_g_some hf
  refine z_idiv (pc := 29) C dX5_far_29 hn3 ?_
  obtain ⟨q4, hq4, hf⟩ := bb_b_some hf
  refine z_callSi (pc := 30) (As := [.int (q1 / (s0.2.1 0 1)), .int ((s0.2.1 0 3) / (s0.2.1 0 1))]) (rest := []) C (hR.le (by decide)) (c_X5_apart hq4) (bb_cut_none _) bv_X5_apart bm_X5_57 rfl rfl (Nat.le_of_ble_eq_true rfl) dX5_far_30 ?_
  refine z_iload_n (pc := 33) (i := 2) C 1 dX5_far_33 rfl rfl ?_
  refine z_aload_n (pc := 34) (i := 0) C 2 dX5_far_34 rfl rfl ?_
  refine z_get (pc := 35) (ci := 5) C (.ref (h 1)) bi_X5 rfl 0 0 (by decide) rfl bf_X5_7 rfl rfl dX5_far_35 ?_
  refine z_iconst (pc := 38) C (1 : Int32) dX5_far_38 (by decide) ?_
  refine z_iald (pc := 39) C 1 0 (1) rfl rfl (show ¬ ((1 : Int32) < 0 ∨ 39 ≤ (1 : Int32).toNatClampNeg) by decide) (by decide) dX5_far_39 ?_
  obtain ⟨hn5, hf⟩ := bb_g_some hf
  refine z_irem (pc := 40) C dX5_far_40 hn5 ?_
  refine z_iload_n (pc := 41) (i := 3) C 0 dX5_far_41 rfl rfl ?_
  refine z_aload_n (pc := 42) (i := 0) C 2 dX5_far_42 rfl rfl ?_
  refine z_get (pc := 43) (ci := 5) C (.ref (h 1)) bi_X5 rfl 0 0 (by decide) rfl bf_X5_7 rfl rfl dX5_far_43 ?_
  refine z_iconst (pc := 46) C (1 : Int32) dX5_far_46 (by decide) ?_
  refine z_iald (pc := 47) C 1 0 (1) rfl rfl (show ¬ ((1 : Int32) < 0 ∨ 39 ≤ (1 : Int32).toNatClampNeg) by decide) (by decide) dX5_far_47 ?_
  obtain ⟨hn6, hf⟩ := bb_g_some hf
  refine z_irem (pc := 48) C dX5_far_48 hn6 ?_
  obtain ⟨q7, hq7, hf⟩ := bb_b_some hf
  refine z_callSi (pc := 49) (As := [.int (q1 % (s0.2.1 0 1)), .int ((s0.2.1 0 3) % (s0.2.1 0 1))]) (rest := [.int q4]) C (hR.le (by decide)) (c_X5_apart hq7) (bb_cut_none _) bv_X5_apart bm_X5_57 rfl rfl (Nat.le_of_ble_eq_true rfl) dX5_far_49 ?_
  refine z_iadd (pc := 52) C dX5_far_52 ?_
  obtain rfl := Option.some.inj hf
  exact z_iret (pc := 53) C hr R dX5_far_53
theorem c_X5_far {l : Launch} {D : va_G} {cs : Nat → ClassId} (h : Nat → Nat) {s0 : bb_O} {x1 : Int32} {z : Int32} (hf : F_X5_far_0 s0 x1 = some z) : bb_M l yX5_far cX5_far 4 (some .int) 2 D cs [.ref (h 0), .int x1] (some (.int z)) (wX5 cs h s0) (wX5 cs h s0) := bb_mg (by decide) rfl (Nat.le_of_ble_eq_true rfl) rfl (fun X hl hD hcs C hR hr R => by
  subst hl
  subst hD
  subst hcs
  exact B_X5_far_0 C hR hr h R hf)
/-! X5_loud: reads, level 3 -/
noncomputable def F_X5_loud_92 (s0 : bb_O) (y0 : Int32) : Option Int32 := some y0
set_option maxHeartbeats 4000000 in
set_option maxRecDepth 100000 in
theorem B_X5_loud_92 {X : bb_X} (C : bb_C X RX5 cX5_loud 4) (hR : bb_r X 3) (hr : X.meth.sig.returnType = (some .int)) (h : Nat → Nat) {z : Int32} {s0 : bb_O} (R : bb_R X (some (.int z)) (wX5 X.cs h s0)) {y0 : Int32} (hf : F_X5_loud_92 s0 y0 = some z) : bb_Z X 4 (wX5 X.cs h s0) 92 [] [.int y0] := by
  obtain rfl := Option.some.inj hf
  exact z_iret (pc := 92) C hr R dX5_loud_92
noncomputable def F_X5_loud_109 (s0 : bb_O) (y0 : Int32) : Option Int32 := some y0
set_option maxHeartbeats 4000000 in
set_option maxRecDepth 100000 in
theorem B_X5_loud_109 {X : bb_X} (C : bb_C X RX5 cX5_loud 4) (hR : bb_r X 3) (hr : X.meth.sig.returnType = (some .int)) (h : Nat → Nat) {z : Int32} {s0 : bb_O} (R : bb_R X (some (.int z)) (wX5 X.cs h s0)) {y0 : Int32} (hf : F_X5_loud_109 s0 y0 = some z) : bb_Z X 4 (wX5 X.cs h s0) 109 [] [.int y0] := by
  obtain rfl := Option.some.inj hf
  exact z_iret (pc := 109) C hr R dX5_loud_109
noncomputable def F_X5_loud_28 (s0 : bb_O) (x1 : Int32) (x2 : Int32) (y0 : Int32) : Option Int32 := (F_X5_told_0 s0 x1 ((0 : Int32))).bind (fun q1 => if q1 = 0 then (some y0) else (if q1 = 1 then (some (y0 / ((2 : Int32)))) else (if q1 = 2 then (some (y0 + ((4 : Int32)))) else (if q1 = 3 then (if ((s0.2.1 0 4) % ((2 : Int32))) = 0 then (F_X5_loud_92 s0 ((0 : Int32))) else (F_X5_loud_92 s0 (y0 / ((2 : Int32))))) else (if ((2 : Int32)) < x2 then (F_X5_loud_109 s0 (y0 + ((4 : Int32)))) else (F_X5_loud_109 s0 (((2 : Int32)) * (y0 + ((4 : Int32))))))))))
set_option maxHeartbeats 4000000 in
set_option maxRecDepth 100000 in
theorem B_X5_loud_28 {X : bb_X} (C : bb_C X RX5 cX5_loud 4) (hR : bb_r X 3) (hr : X.meth.sig.returnType = (some .int)) (h : Nat → Nat) {z : Int32} {s0 : bb_O} (R : bb_R X (some (.int z)) (wX5 X.cs h s0)) {x1 : Int32} {x2 : Int32} {y0 : Int32} (hf : F_X5_loud_28 s0 x1 x2 y0 = some z) : bb_Z X 4 (wX5 X.cs h s0) 28 [(0, .ref (h 0)), (1, .int x1), (2, .int x2)] [.int y0] := by
  refine z_istore_n (pc := 28) (i := 3) (lv' := [(3, .int y0), (0, .ref (h 0)), (1, .int x1), (2, .int x2)]) C dX5_loud_28 rfl (by decide) rfl ?_
  refine z_aload_n (pc := 29) (i := 0) C 1 dX5_loud_29 rfl rfl ?_
  refine z_iload_n (pc := 30) (i := 1) C 2 dX5_loud_30 rfl rfl ?_
  refine z_iconst (pc := 31) C (0 : Int32) dX5_loud_31 (by decide) ?_
  obtain ⟨q1, hq1, hf⟩ := bb_b_some hf
  refine z_callVi (pc := 32) (ci := 5) (q0 := 0) (As := [.int x1, .int ((0 : Int32))]) (rest := []) C (hR.le (by decide)) (c_X5_told h hq1) (bb_cut_self _ _) bv_X5_told bm_X5_53 rfl rfl rfl rfl (Nat.le_of_ble_eq_true rfl) dX5_loud_32 ?_
  by_cases hc2 : q1 = 0
  · have hf := bb_t hf hc2
    refine z_tabIn (pc := 35) C 64 (0 : Int32) dX5_loud_35 hc2 (by decide) (by decide) rfl (by decide) ?_
    refine z_iload_n (pc := 64) (i := 3) C 0 dX5_loud_64 rfl rfl ?_
    obtain rfl := Option.some.inj hf
    exact z_iret (pc := 65) C hr R dX5_loud_65
  · have hf := bb_e hf hc2
    by_cases hc3 : q1 = 1
    · have hf := bb_t hf hc3
      refine z_tabIn (pc := 35) C 66 (1 : Int32) dX5_loud_35 hc3 (by decide) (by decide) rfl (by decide) ?_
      refine z_iload_n (pc := 66) (i := 3) C 0 dX5_loud_66 rfl rfl ?_
      refine z_iconst (pc := 67) C (2 : Int32) dX5_loud_67 (by decide) ?_
      refine z_idiv (pc := 68) C dX5_loud_68 (by decide) ?_
      obtain rfl := Option.some.inj hf
      exact z_iret (pc := 69) C hr R dX5_loud_69
    · have hf := bb_e hf hc3
      by_cases hc4 : q1 = 2
      · have hf := bb_t hf hc4
        refine z_tabIn (pc := 35) C 70 (2 : Int32) dX5_loud_35 hc4 (by decide) (by decide) rfl (by decide) ?_
        refine z_iload_n (pc := 70) (i := 3) C 0 dX5_loud_70 rfl rfl ?_
        refine z_iconst (pc := 71) C (4 : Int32) dX5_loud_71 (by decide) ?_
        refine z_iadd (pc := 72) C dX5_loud_72 ?_
        obtain rfl := Option.some.inj hf
        exact z_iret (pc := 73) C hr R dX5_loud_73
      · have hf := bb_e hf hc4
        by_cases hc5 : q1 = 3
        · have hf := bb_t hf hc5
          refine z_tabIn (pc := 35) C 74 (3 : Int32) dX5_loud_35 hc5 (by decide) (by decide) rfl (by decide) ?_
          refine z_aload_n (pc := 74) (i := 0) C 1 dX5_loud_74 rfl rfl ?_
          refine z_get (pc := 75) (ci := 5) C (.ref (h 1)) bi_X5 rfl 0 0 (by decide) rfl bf_X5_7 rfl rfl dX5_loud_75 ?_
          refine z_iconst (pc := 78) C (4 : Int32) dX5_loud_78 (by decide) ?_
          refine z_iald (pc := 79) C 1 0 (4) rfl rfl (show ¬ ((4 : Int32) < 0 ∨ 39 ≤ (4 : Int32).toNatClampNeg) by decide) (by decide) dX5_loud_79 ?_
          refine z_iconst (pc := 80) C (2 : Int32) dX5_loud_80 (by decide) ?_
          refine z_irem (pc := 81) C dX5_loud_81 (by decide) ?_
          refine z_if_ne (pc := 82) C 89 dX5_loud_82 (by decide) (fun hc6 => ?_) (fun hc6 => ?_)
          · have hf := bb_e hf hc6
            refine z_iload_n (pc := 89) (i := 3) C 0 dX5_loud_89 rfl rfl ?_
            refine z_iconst (pc := 90) C (2 : Int32) dX5_loud_90 (by decide) ?_
            refine z_idiv (pc := 91) C dX5_loud_91 (by decide) ?_
            refine z_lv [] rfl ?_
            exact B_X5_loud_92 C hR hr h R  hf
          · have hf := bb_t hf hc6
            refine z_iconst (pc := 85) C (0 : Int32) dX5_loud_85 (by decide) ?_
            refine z_goto (pc := 86) C 92 dX5_loud_86 (by decide) ?_
            refine z_lv [] rfl ?_
            exact B_X5_loud_92 C hR hr h R  hf
        · have hf := bb_e hf hc5
          refine z_tabOut (pc := 35) C 93 dX5_loud_35 (by have a0 := lv_neT hc2 (show (0 : Int32).toInt = 0 by decide); have a1 := lv_neT hc3 (show (1 : Int32).toInt = 1 by decide); have a2 := lv_neT hc4 (show (2 : Int32).toInt = 2 by decide); have a3 := lv_neT hc5 (show (3 : Int32).toInt = 3 by decide); omega) (by decide) ?_
          refine z_iload_n (pc := 93) (i := 2) C 3 dX5_loud_93 rfl rfl ?_
          refine z_iconst (pc := 94) C (2 : Int32) dX5_loud_94 (by decide) ?_
          refine z_icmp_gt (pc := 95) C 106 dX5_loud_95 (by decide) (fun hc7 => ?_) (fun hc7 => ?_)
          · have hf := bb_t hf hc7
            refine z_iload_n (pc := 106) (i := 3) C 0 dX5_loud_106 rfl rfl ?_
            refine z_iconst (pc := 107) C (4 : Int32) dX5_loud_107 (by decide) ?_
            refine z_iadd (pc := 108) C dX5_loud_108 ?_
            refine z_lv [] rfl ?_
            exact B_X5_loud_109 C hR hr h R  hf
          · have hf := bb_e hf hc7
            refine z_iconst (pc := 98) C (2 : Int32) dX5_loud_98 (by decide) ?_
            refine z_iload_n (pc := 99) (i := 3) C 0 dX5_loud_99 rfl rfl ?_
            refine z_iconst (pc := 100) C (4 : Int32) dX5_loud_100 (by decide) ?_
            refine z_iadd (pc := 101) C dX5_loud_101 ?_
            refine z_imul (pc := 102) C dX5_loud_102 ?_
            refine z_goto (pc := 103) C 109 dX5_loud_103 (by decide) ?_
            refine z_lv [] rfl ?_
            exact B_X5_loud_109 C hR hr h R  hf
noncomputable def F_X5_loud_0 (s0 : bb_O) (x1 : Int32) : Option Int32 := (F_X5_far_0 s0 x1).bind (fun q1 => (F_X5_told_0 s0 x1 ((2 : Int32))).bind (fun q2 => if q2 ≤ q1 then (F_X5_loud_28 s0 x1 q1 ((0 : Int32))) else ((F_X5_told_0 s0 x1 ((2 : Int32))).bind (fun q4 => F_X5_loud_28 s0 x1 q1 (q4 - q1)))))
set_option maxHeartbeats 4000000 in
set_option maxRecDepth 100000 in
theorem B_X5_loud_0 {X : bb_X} (C : bb_C X RX5 cX5_loud 4) (hR : bb_r X 3) (hr : X.meth.sig.returnType = (some .int)) (h : Nat → Nat) {z : Int32} {s0 : bb_O} (R : bb_R X (some (.int z)) (wX5 X.cs h s0)) {x1 : Int32} (hf : F_X5_loud_0 s0 x1 = some z) : bb_Z X 4 (wX5 X.cs h s0) 0 [(0, .ref (h 0)), (1, .int x1)] [] := by
  refine z_aload_n (pc := 0) (i := 0) C 0 dX5_loud_0 rfl rfl ?_
  refine z_iload_n (pc := 1) (i := 1) C 1 dX5_loud_1 rfl rfl ?_
  obtain ⟨q1, hq1, hf⟩ := bb_b_some hf
  refine z_callVi (pc := 2) (ci := 5) (q0 := 0) (As := [.int x1]) (rest := []) C (hR.le (by decide)) (c_X5_far h hq1) (bb_cut_self _ _) bv_X5_far bm_X5_60 rfl rfl rfl rfl (Nat.le_of_ble_eq_true rfl) dX5_loud_2 ?_
  refine z_istore_n (pc := 5) (i := 2) (lv' := [(2, .int q1), (0, .ref (h 0)), (1, .int x1)]) C dX5_loud_5 rfl (by decide) rfl ?_
  refine z_aload_n (pc := 6) (i := 0) C 1 dX5_loud_6 rfl rfl ?_
  refine z_iload_n (pc := 7) (i := 1) C 2 dX5_loud_7 rfl rfl ?_
  refine z_iconst (pc := 8) C (2 : Int32) dX5_loud_8 (by decide) ?_
  obtain ⟨q2, hq2, hf⟩ := bb_b_some hf
  refine z_callVi (pc := 9) (ci := 5) (q0 := 0) (As := [.int x1, .int ((2 : Int32))]) (rest := []) C (hR.le (by decide)) (c_X5_told h hq2) (bb_cut_self _ _) bv_X5_told bm_X5_53 rfl rfl rfl rfl (Nat.le_of_ble_eq_true rfl) dX5_loud_9 ?_
  refine z_iload_n (pc := 12) (i := 2) C 0 dX5_loud_12 rfl rfl ?_
  refine z_icmp_le (pc := 13) C 27 dX5_loud_13 (by decide) (fun hc3 => ?_) (fun hc3 => ?_)
  · have hf := bb_t hf hc3
    refine z_iconst (pc := 27) C (0 : Int32) dX5_loud_27 (by decide) ?_
    refine z_lv [1, 2, 0] rfl ?_
    exact B_X5_loud_28 C hR hr h R  hf
  · have hf := bb_e hf hc3
    refine z_aload_n (pc := 16) (i := 0) C 1 dX5_loud_16 rfl rfl ?_
    refine z_iload_n (pc := 17) (i := 1) C 2 dX5_loud_17 rfl rfl ?_
    refine z_iconst (pc := 18) C (2 : Int32) dX5_loud_18 (by decide) ?_
    obtain ⟨q4, hq4, hf⟩ := bb_b_some hf
    refine z_callVi (pc := 19) (ci := 5) (q0 := 0) (As := [.int x1, .int ((2 : Int32))]) (rest := []) C (hR.le (by decide)) (c_X5_told h hq4) (bb_cut_self _ _) bv_X5_told bm_X5_53 rfl rfl rfl rfl (Nat.le_of_ble_eq_true rfl) dX5_loud_19 ?_
    refine z_iload_n (pc := 22) (i := 2) C 0 dX5_loud_22 rfl rfl ?_
    refine z_isub (pc := 23) C dX5_loud_23 ?_
    refine z_goto (pc := 24) C 28 dX5_loud_24 (by decide) ?_
    refine z_lv [1, 2, 0] rfl ?_
    exact B_X5_loud_28 C hR hr h R  hf
theorem c_X5_loud {l : Launch} {D : va_G} {cs : Nat → ClassId} (h : Nat → Nat) {s0 : bb_O} {x1 : Int32} {z : Int32} (hf : F_X5_loud_0 s0 x1 = some z) : bb_M l yX5_loud cX5_loud 4 (some .int) 3 D cs [.ref (h 0), .int x1] (some (.int z)) (wX5 cs h s0) (wX5 cs h s0) := bb_mg (by decide) rfl (Nat.le_of_ble_eq_true rfl) rfl (fun X hl hD hcs C hR hr R => by
  subst hl
  subst hD
  subst hcs
  exact B_X5_loud_0 C hR hr h R hf)
/-! X5_many: reads, level 1 -/
noncomputable def G_X5_many_4 (k4 : Int32 → Int32 → Option Int32) (x1 : Int32) (x2 : Int32) : Option Int32 := if x2 = 0 then (some x1) else (k4 (x1 + 1) (x2 &&& (x2 - ((1 : Int32)))))
noncomputable def F_X5_many_4  : Nat → Int32 → Int32 → Option Int32
  | 0, _, _ => none
  | n + 1, x1, x2 => G_X5_many_4  (F_X5_many_4  n) x1 x2
set_option maxHeartbeats 4000000 in
set_option maxRecDepth 100000 in
theorem A_X5_many_4 {X : bb_X} (C : bb_C X RX5 cX5_many 3) (hR : bb_r X 1) (hr : X.meth.sig.returnType = (some .int)) {z : Int32} (R : bb_R X (some (.int z)) ([])) {k4 : Int32 → Int32 → Option Int32} (hk4 : ∀ (x1 : Int32) (x2 : Int32), k4 x1 x2 = some z → bb_Z X 3 ([]) 4 [(1, .int x1), (2, .int x2)] []) {x1 : Int32} {x2 : Int32} (hf : G_X5_many_4 k4 x1 x2 = some z) : bb_Z X 3 ([]) 4 [(1, .int x1), (2, .int x2)] [] := by
  refine z_iload_n (pc := 4) (i := 2) C 1 dX5_many_4 rfl rfl ?_
  refine z_if_eq (pc := 5) C 20 dX5_many_5 (by decide) (fun hc1 => ?_) (fun hc1 => ?_)
  · have hf := bb_t hf hc1
    refine z_iload_n (pc := 20) (i := 1) C 0 dX5_many_20 rfl rfl ?_
    obtain rfl := Option.some.inj hf
    exact z_iret (pc := 21) C hr R dX5_many_21
  · have hf := bb_e hf hc1
    refine z_iinc (pc := 8) (lv' := [(1, .int (x1 + 1)), (2, .int x2)]) C (x1 + 1) 0 dX5_many_8 rfl rfl (by decide) rfl ?_
    refine z_iload_n (pc := 11) (i := 2) C 1 dX5_many_11 rfl rfl ?_
    refine z_iload_n (pc := 12) (i := 2) C 1 dX5_many_12 rfl rfl ?_
    refine z_iconst (pc := 13) C (1 : Int32) dX5_many_13 (by decide) ?_
    refine z_isub (pc := 14) C dX5_many_14 ?_
    refine z_iand (pc := 15) C dX5_many_15 ?_
    refine z_istore_n (pc := 16) (i := 2) (lv' := [(2, .int (x2 &&& (x2 - ((1 : Int32))))), (1, .int (x1 + 1))]) C dX5_many_16 rfl (by decide) rfl ?_
    refine z_goto (pc := 17) C 4 dX5_many_17 (by decide) ?_
    refine z_lv [1, 0] rfl ?_
    exact hk4 _ _ hf
theorem B_X5_many_4 {X : bb_X} (C : bb_C X RX5 cX5_many 3) (hR : bb_r X 1) (hr : X.meth.sig.returnType = (some .int)) {z : Int32} (R : bb_R X (some (.int z)) ([])) : ∀ (n : Nat) (x1 : Int32) (x2 : Int32), F_X5_many_4  n x1 x2 = some z → bb_Z X 3 ([]) 4 [(1, .int x1), (2, .int x2)] [] := by
  intro n
  induction n with
  | zero =>
    intro x1 x2 hf
    cases hf
  | succ n ih =>
    intro x1 x2 hf
    exact A_X5_many_4 C hR hr  R  ih hf
noncomputable def F_X5_many_0 (x0 : Int32) : Option Int32 := F_X5_many_4 bb_N ((0 : Int32)) x0
set_option maxHeartbeats 4000000 in
set_option maxRecDepth 100000 in
theorem B_X5_many_0 {X : bb_X} (C : bb_C X RX5 cX5_many 3) (hR : bb_r X 1) (hr : X.meth.sig.returnType = (some .int)) {z : Int32} (R : bb_R X (some (.int z)) ([])) {x0 : Int32} (hf : F_X5_many_0 x0 = some z) : bb_Z X 3 ([]) 0 [(0, .int x0)] [] := by
  refine z_iconst (pc := 0) C (0 : Int32) dX5_many_0 (by decide) ?_
  refine z_istore_n (pc := 1) (i := 1) (lv' := [(1, .int ((0 : Int32))), (0, .int x0)]) C dX5_many_1 rfl (by decide) rfl ?_
  refine z_iload_n (pc := 2) (i := 0) C 1 dX5_many_2 rfl rfl ?_
  refine z_istore_n (pc := 3) (i := 2) (lv' := [(2, .int x0), (1, .int ((0 : Int32))), (0, .int x0)]) C dX5_many_3 rfl (by decide) rfl ?_
  refine z_lv [1, 0] rfl ?_
  exact B_X5_many_4 C hR hr  R  bb_N _ _ hf
theorem c_X5_many {l : Launch} {D : va_G} {cs : Nat → ClassId} {x0 : Int32} {z : Int32} (hf : F_X5_many_0 x0 = some z) : bb_M l yX5_many cX5_many 3 (some .int) 1 D cs [.int x0] (some (.int z)) ([]) ([]) := bb_mg (by decide) rfl (Nat.le_of_ble_eq_true rfl) rfl (fun X hl hD hcs C hR hr R => by
  subst hl
  subst hD
  subst hcs
  exact B_X5_many_0 C hR hr  R hf)
/-! X5_named: reads, level 2 -/
noncomputable def F_X5_named_60 (s0 : bb_O) (k5 : Int32 → Int32 → Int32 → Int32 → Option Int32) (x1 : Int32) (x2 : Int32) (x4 : Int32) (y0 : Int32) : Option Int32 := k5 x1 x2 y0 (x4 + 1)
set_option maxHeartbeats 4000000 in
set_option maxRecDepth 100000 in
theorem B_X5_named_60 {X : bb_X} (C : bb_C X RX5 cX5_named 6) (hR : bb_r X 2) (hr : X.meth.sig.returnType = (some .int)) (h : Nat → Nat) {z : Int32} {s0 : bb_O} (R : bb_R X (some (.int z)) (wX5 X.cs h s0)) {k5 : Int32 → Int32 → Int32 → Int32 → Option Int32} (hk5 : ∀ (x1 : Int32) (x2 : Int32) (x3 : Int32) (x4 : Int32), k5 x1 x2 x3 x4 = some z → bb_Z X 6 (wX5 X.cs h s0) 5 [(0, .ref (h 0)), (1, .int x1), (2, .int x2), (3, .int x3), (4, .int x4)] []) {x1 : Int32} {x2 : Int32} {x4 : Int32} {y0 : Int32} (hf : F_X5_named_60 s0 k5 x1 x2 x4 y0 = some z) : bb_Z X 6 (wX5 X.cs h s0) 60 [(0, .ref (h 0)), (1, .int x1), (2, .int x2), (4, .int x4)] [.int y0] := by
  refine z_istore_n (pc := 60) (i := 3) (lv' := [(3, .int y0), (0, .ref (h 0)), (1, .int x1), (2, .int x2), (4, .int x4)]) C dX5_named_60 rfl (by decide) rfl ?_
  refine z_iinc (pc := 61) (lv' := [(4, .int (x4 + 1)), (3, .int y0), (0, .ref (h 0)), (1, .int x1), (2, .int x2)]) C (x4 + 1) 4 dX5_named_61 rfl rfl (by decide) rfl ?_
  refine z_goto (pc := 64) C 5 dX5_named_64 (by decide) ?_
  refine z_lv [2, 3, 4, 1, 0] rfl ?_
  exact hk5 _ _ _ _ hf
noncomputable def G_X5_named_5 (s0 : bb_O) (k5 : Int32 → Int32 → Int32 → Int32 → Option Int32) (x1 : Int32) (x2 : Int32) (x3 : Int32) (x4 : Int32) : Option Int32 := if (s0.2.1 0 2) ≤ x4 then (some x3) else ((F_X5_told_0 s0 x1 ((3 : Int32))).bind (fun q2 => (F_X5_told_0 s0 x4 ((3 : Int32))).bind (fun q3 => (F_X5_many_0 (q3 ^^^ (q2 ^^^ x2))).bind (fun q4 => (F_X5_told_0 s0 x3 ((3 : Int32))).bind (fun q5 => (F_X5_many_0 (q5 ^^^ (q2 ^^^ x2))).bind (fun q6 => if q6 ≤ q4 then (F_X5_named_60 s0 k5 x1 x2 x4 x3) else (F_X5_named_60 s0 k5 x1 x2 x4 x4)))))))
noncomputable def F_X5_named_5 (s0 : bb_O) : Nat → Int32 → Int32 → Int32 → Int32 → Option Int32
  | 0, _, _, _, _ => none
  | n + 1, x1, x2, x3, x4 => G_X5_named_5 s0 (F_X5_named_5 s0 n) x1 x2 x3 x4
set_option maxHeartbeats 4000000 in
set_option maxRecDepth 100000 in
theorem A_X5_named_5 {X : bb_X} (C : bb_C X RX5 cX5_named 6) (hR : bb_r X 2) (hr : X.meth.sig.returnType = (some .int)) (h : Nat → Nat) {z : Int32} {s0 : bb_O} (R : bb_R X (some (.int z)) (wX5 X.cs h s0)) {k5 : Int32 → Int32 → Int32 → Int32 → Option Int32} (hk5 : ∀ (x1 : Int32) (x2 : Int32) (x3 : Int32) (x4 : Int32), k5 x1 x2 x3 x4 = some z → bb_Z X 6 (wX5 X.cs h s0) 5 [(0, .ref (h 0)), (1, .int x1), (2, .int x2), (3, .int x3), (4, .int x4)] []) {x1 : Int32} {x2 : Int32} {x3 : Int32} {x4 : Int32} (hf : G_X5_named_5 s0 k5 x1 x2 x3 x4 = some z) : bb_Z X 6 (wX5 X.cs h s0) 5 [(0, .ref (h 0)), (1, .int x1), (2, .int x2), (3, .int x3), (4, .int x4)] [] := by
  refine z_iload (pc := 5) C 4 dX5_named_5 rfl ?_
  refine z_aload_n (pc := 7) (i := 0) C 0 dX5_named_7 rfl rfl ?_
  refine z_get (pc := 8) (ci := 5) C (.ref (h 1)) bi_X5 rfl 0 0 (by decide) rfl bf_X5_7 rfl rfl dX5_named_8 ?_
  refine z_iconst (pc := 11) C (2 : Int32) dX5_named_11 (by decide) ?_
  refine z_iald (pc := 12) C 1 0 (2) rfl rfl (show ¬ ((2 : Int32) < 0 ∨ 39 ≤ (2 : Int32).toNatClampNeg) by decide) (by decide) dX5_named_12 ?_
  refine z_icmp_ge (pc := 13) C 67 dX5_named_13 (by decide) (fun hc1 => ?_) (fun hc1 => ?_)
  · have hf := bb_t hf hc1
    refine z_iload_n (pc := 67) (i := 3) C 3 dX5_named_67 rfl rfl ?_
    obtain rfl := Option.some.inj hf
    exact z_iret (pc := 68) C hr R dX5_named_68
  · have hf := bb_e hf hc1
    refine z_aload_n (pc := 16) (i := 0) C 0 dX5_named_16 rfl rfl ?_
    refine z_iload_n (pc := 17) (i := 1) C 1 dX5_named_17 rfl rfl ?_
    refine z_iconst (pc := 18) C (3 : Int32) dX5_named_18 (by decide) ?_
    obtain ⟨q2, hq2, hf⟩ := bb_b_some hf
    refine z_callVi (pc := 19) (ci := 5) (q0 := 0) (As := [.int x1, .int ((3 : Int32))]) (rest := []) C (hR.le (by decide)) (c_X5_told h hq2) (bb_cut_self _ _) bv_X5_told bm_X5_53 rfl rfl rfl rfl (Nat.le_of_ble_eq_true rfl) dX5_named_19 ?_
    refine z_iload_n (pc := 22) (i := 2) C 2 dX5_named_22 rfl rfl ?_
    refine z_ixor (pc := 23) C dX5_named_23 ?_
    refine z_istore (pc := 24) (lv' := [(5, .int (q2 ^^^ x2)), (0, .ref (h 0)), (1, .int x1), (2, .int x2), (3, .int x3), (4, .int x4)]) C dX5_named_24 (by decide) rfl ?_
    refine z_aload_n (pc := 26) (i := 0) C 1 dX5_named_26 rfl rfl ?_
    refine z_iload (pc := 27) C 5 dX5_named_27 rfl ?_
    refine z_iconst (pc := 29) C (3 : Int32) dX5_named_29 (by decide) ?_
    obtain ⟨q3, hq3, hf⟩ := bb_b_some hf
    refine z_callVi (pc := 30) (ci := 5) (q0 := 0) (As := [.int x4, .int ((3 : Int32))]) (rest := []) C (hR.le (by decide)) (c_X5_told h hq3) (bb_cut_self _ _) bv_X5_told bm_X5_53 rfl rfl rfl rfl (Nat.le_of_ble_eq_true rfl) dX5_named_30 ?_
    refine z_iload (pc := 33) C 0 dX5_named_33 rfl ?_
    refine z_ixor (pc := 35) C dX5_named_35 ?_
    obtain ⟨q4, hq4, hf⟩ := bb_b_some hf
    refine z_callSi (pc := 36) (As := [.int (q3 ^^^ (q2 ^^^ x2))]) (rest := []) C (hR.le (by decide)) (c_X5_many hq4) (bb_cut_none _) bv_X5_many bm_X5_64 rfl rfl (Nat.le_of_ble_eq_true rfl) dX5_named_36 ?_
    refine z_aload_n (pc := 39) (i := 0) C 1 dX5_named_39 rfl rfl ?_
    refine z_iload_n (pc := 40) (i := 3) C 4 dX5_named_40 rfl rfl ?_
    refine z_iconst (pc := 41) C (3 : Int32) dX5_named_41 (by decide) ?_
    obtain ⟨q5, hq5, hf⟩ := bb_b_some hf
    refine z_callVi (pc := 42) (ci := 5) (q0 := 0) (As := [.int x3, .int ((3 : Int32))]) (rest := [.int q4]) C (hR.le (by decide)) (c_X5_told h hq5) (bb_cut_self _ _) bv_X5_told bm_X5_53 rfl rfl rfl rfl (Nat.le_of_ble_eq_true rfl) dX5_named_42 ?_
    refine z_iload (pc := 45) C 0 dX5_named_45 rfl ?_
    refine z_ixor (pc := 47) C dX5_named_47 ?_
    obtain ⟨q6, hq6, hf⟩ := bb_b_some hf
    refine z_callSi (pc := 48) (As := [.int (q5 ^^^ (q2 ^^^ x2))]) (rest := [.int q4]) C (hR.le (by decide)) (c_X5_many hq6) (bb_cut_none _) bv_X5_many bm_X5_64 rfl rfl (Nat.le_of_ble_eq_true rfl) dX5_named_48 ?_
    refine z_icmp_ge (pc := 51) C 59 dX5_named_51 (by decide) (fun hc7 => ?_) (fun hc7 => ?_)
    · have hf := bb_t hf hc7
      refine z_iload_n (pc := 59) (i := 3) C 4 dX5_named_59 rfl rfl ?_
      refine z_lv [1, 2, 3, 5] rfl ?_
      exact B_X5_named_60 C hR hr h R hk5 hf
    · have hf := bb_e hf hc7
      refine z_iload (pc := 54) C 5 dX5_named_54 rfl ?_
      refine z_goto (pc := 56) C 60 dX5_named_56 (by decide) ?_
      refine z_lv [1, 2, 3, 5] rfl ?_
      exact B_X5_named_60 C hR hr h R hk5 hf
theorem B_X5_named_5 {X : bb_X} (C : bb_C X RX5 cX5_named 6) (hR : bb_r X 2) (hr : X.meth.sig.returnType = (some .int)) (h : Nat → Nat) {z : Int32} {s0 : bb_O} (R : bb_R X (some (.int z)) (wX5 X.cs h s0)) : ∀ (n : Nat) (x1 : Int32) (x2 : Int32) (x3 : Int32) (x4 : Int32), F_X5_named_5 s0 n x1 x2 x3 x4 = some z → bb_Z X 6 (wX5 X.cs h s0) 5 [(0, .ref (h 0)), (1, .int x1), (2, .int x2), (3, .int x3), (4, .int x4)] [] := by
  intro n
  induction n with
  | zero =>
    intro x1 x2 x3 x4 hf
    cases hf
  | succ n ih =>
    intro x1 x2 x3 x4 hf
    exact A_X5_named_5 C hR hr h R  ih hf
noncomputable def F_X5_named_0 (s0 : bb_O) (x1 : Int32) (x2 : Int32) : Option Int32 := F_X5_named_5 s0 bb_N x1 x2 ((0 : Int32)) ((1 : Int32))
set_option maxHeartbeats 4000000 in
set_option maxRecDepth 100000 in
theorem B_X5_named_0 {X : bb_X} (C : bb_C X RX5 cX5_named 6) (hR : bb_r X 2) (hr : X.meth.sig.returnType = (some .int)) (h : Nat → Nat) {z : Int32} {s0 : bb_O} (R : bb_R X (some (.int z)) (wX5 X.cs h s0)) {x1 : Int32} {x2 : Int32} (hf : F_X5_named_0 s0 x1 x2 = some z) : bb_Z X 6 (wX5 X.cs h s0) 0 [(0, .ref (h 0)), (1, .int x1), (2, .int x2)] [] := by
  refine z_iconst (pc := 0) C (0 : Int32) dX5_named_0 (by decide) ?_
  refine z_istore_n (pc := 1) (i := 3) (lv' := [(3, .int ((0 : Int32))), (0, .ref (h 0)), (1, .int x1), (2, .int x2)]) C dX5_named_1 rfl (by decide) rfl ?_
  refine z_iconst (pc := 2) C (1 : Int32) dX5_named_2 (by decide) ?_
  refine z_istore (pc := 3) (lv' := [(4, .int ((1 : Int32))), (3, .int ((0 : Int32))), (0, .ref (h 0)), (1, .int x1), (2, .int x2)]) C dX5_named_3 (by decide) rfl ?_
  refine z_lv [2, 3, 4, 1, 0] rfl ?_
  exact B_X5_named_5 C hR hr h R  bb_N _ _ _ _ hf
theorem c_X5_named {l : Launch} {D : va_G} {cs : Nat → ClassId} (h : Nat → Nat) {s0 : bb_O} {x1 : Int32} {x2 : Int32} {z : Int32} (hf : F_X5_named_0 s0 x1 x2 = some z) : bb_M l yX5_named cX5_named 6 (some .int) 2 D cs [.ref (h 0), .int x1, .int x2] (some (.int z)) (wX5 cs h s0) (wX5 cs h s0) := bb_mg (by decide) rfl (Nat.le_of_ble_eq_true rfl) rfl (fun X hl hD hcs C hR hr R => by
  subst hl
  subst hD
  subst hcs
  exact B_X5_named_0 C hR hr h R hf)
/-! X5_follows: reads, level 4 -/
noncomputable def F_X5_follows_81 (s0 : bb_O) (k8 : Int32 → Int32 → Int32 → Int32 → Option Int32) (x1 : Int32) (x2 : Int32) (x4 : Int32) (y0 : Int32) : Option Int32 := k8 x1 x2 y0 (x4 + 1)
set_option maxHeartbeats 4000000 in
set_option maxRecDepth 100000 in
theorem B_X5_follows_81 {X : bb_X} (C : bb_C X RX5 cX5_follows 6) (hR : bb_r X 4) (hr : X.meth.sig.returnType = (some .int)) (h : Nat → Nat) {z : Int32} {s0 : bb_O} (R : bb_R X (some (.int z)) (wX5 X.cs h s0)) {k8 : Int32 → Int32 → Int32 → Int32 → Option Int32} (hk8 : ∀ (x1 : Int32) (x2 : Int32) (x3 : Int32) (x4 : Int32), k8 x1 x2 x3 x4 = some z → bb_Z X 6 (wX5 X.cs h s0) 8 [(0, .ref (h 0)), (1, .int x1), (2, .int x2), (3, .int x3), (4, .int x4)] []) {x1 : Int32} {x2 : Int32} {x4 : Int32} {y0 : Int32} (hf : F_X5_follows_81 s0 k8 x1 x2 x4 y0 = some z) : bb_Z X 6 (wX5 X.cs h s0) 81 [(0, .ref (h 0)), (1, .int x1), (2, .int x2), (4, .int x4)] [.int y0] := by
  refine z_istore_n (pc := 81) (i := 3) (lv' := [(3, .int y0), (0, .ref (h 0)), (1, .int x1), (2, .int x2), (4, .int x4)]) C dX5_follows_81 rfl (by decide) rfl ?_
  refine z_iinc (pc := 82) (lv' := [(4, .int (x4 + 1)), (3, .int y0), (0, .ref (h 0)), (1, .int x1), (2, .int x2)]) C (x4 + 1) 4 dX5_follows_82 rfl rfl (by decide) rfl ?_
  refine z_goto (pc := 85) C 8 dX5_follows_85 (by decide) ?_
  refine z_lv [2, 3, 4, 1, 0] rfl ?_
  exact hk8 _ _ _ _ hf
noncomputable def F_X5_follows_65 (s0 : bb_O) (k8 : Int32 → Int32 → Int32 → Int32 → Option Int32) (x1 : Int32) (x3 : Int32) (x4 : Int32) (x5 : Int32) (y0 : Int32) : Option Int32 := if x5 = 0 then (F_X5_follows_81 s0 k8 x1 y0 x4 x3) else ((F_X5_loud_0 s0 x4).bind (fun q2 => F_X5_follows_81 s0 k8 x1 y0 x4 q2))
set_option maxHeartbeats 4000000 in
set_option maxRecDepth 100000 in
theorem B_X5_follows_65 {X : bb_X} (C : bb_C X RX5 cX5_follows 6) (hR : bb_r X 4) (hr : X.meth.sig.returnType = (some .int)) (h : Nat → Nat) {z : Int32} {s0 : bb_O} (R : bb_R X (some (.int z)) (wX5 X.cs h s0)) {k8 : Int32 → Int32 → Int32 → Int32 → Option Int32} (hk8 : ∀ (x1 : Int32) (x2 : Int32) (x3 : Int32) (x4 : Int32), k8 x1 x2 x3 x4 = some z → bb_Z X 6 (wX5 X.cs h s0) 8 [(0, .ref (h 0)), (1, .int x1), (2, .int x2), (3, .int x3), (4, .int x4)] []) {x1 : Int32} {x3 : Int32} {x4 : Int32} {x5 : Int32} {y0 : Int32} (hf : F_X5_follows_65 s0 k8 x1 x3 x4 x5 y0 = some z) : bb_Z X 6 (wX5 X.cs h s0) 65 [(0, .ref (h 0)), (1, .int x1), (3, .int x3), (4, .int x4), (5, .int x5)] [.int y0] := by
  refine z_istore_n (pc := 65) (i := 2) (lv' := [(2, .int y0), (0, .ref (h 0)), (1, .int x1), (3, .int x3), (4, .int x4), (5, .int x5)]) C dX5_follows_65 rfl (by decide) rfl ?_
  refine z_iload (pc := 66) C 5 dX5_follows_66 rfl ?_
  refine z_if_eq (pc := 68) C 80 dX5_follows_68 (by decide) (fun hc1 => ?_) (fun hc1 => ?_)
  · have hf := bb_t hf hc1
    refine z_iload_n (pc := 80) (i := 3) C 3 dX5_follows_80 rfl rfl ?_
    refine z_lv [1, 2, 0, 4] rfl ?_
    exact B_X5_follows_81 C hR hr h R hk8 hf
  · have hf := bb_e hf hc1
    refine z_aload_n (pc := 71) (i := 0) C 1 dX5_follows_71 rfl rfl ?_
    refine z_iload (pc := 72) C 4 dX5_follows_72 rfl ?_
    obtain ⟨q2, hq2, hf⟩ := bb_b_some hf
    refine z_callVi (pc := 74) (ci := 5) (q0 := 0) (As := [.int x4]) (rest := []) C (hR.le (by decide)) (c_X5_loud h hq2) (bb_cut_self _ _) bv_X5_loud bm_X5_71 rfl rfl rfl rfl (Nat.le_of_ble_eq_true rfl) dX5_follows_74 ?_
    refine z_goto (pc := 77) C 81 dX5_follows_77 (by decide) ?_
    refine z_lv [1, 2, 0, 4] rfl ?_
    exact B_X5_follows_81 C hR hr h R hk8 hf
noncomputable def F_X5_follows_52 (s0 : bb_O) (k8 : Int32 → Int32 → Int32 → Int32 → Option Int32) (x1 : Int32) (x2 : Int32) (x3 : Int32) (x4 : Int32) (y0 : Int32) : Option Int32 := if y0 = 0 then (F_X5_follows_65 s0 k8 x1 x3 x4 y0 x2) else (F_X5_follows_65 s0 k8 x1 x3 x4 y0 x4)
set_option maxHeartbeats 4000000 in
set_option maxRecDepth 100000 in
theorem B_X5_follows_52 {X : bb_X} (C : bb_C X RX5 cX5_follows 6) (hR : bb_r X 4) (hr : X.meth.sig.returnType = (some .int)) (h : Nat → Nat) {z : Int32} {s0 : bb_O} (R : bb_R X (some (.int z)) (wX5 X.cs h s0)) {k8 : Int32 → Int32 → Int32 → Int32 → Option Int32} (hk8 : ∀ (x1 : Int32) (x2 : Int32) (x3 : Int32) (x4 : Int32), k8 x1 x2 x3 x4 = some z → bb_Z X 6 (wX5 X.cs h s0) 8 [(0, .ref (h 0)), (1, .int x1), (2, .int x2), (3, .int x3), (4, .int x4)] []) {x1 : Int32} {x2 : Int32} {x3 : Int32} {x4 : Int32} {y0 : Int32} (hf : F_X5_follows_52 s0 k8 x1 x2 x3 x4 y0 = some z) : bb_Z X 6 (wX5 X.cs h s0) 52 [(0, .ref (h 0)), (1, .int x1), (2, .int x2), (3, .int x3), (4, .int x4)] [.int y0] := by
  refine z_istore (pc := 52) (lv' := [(5, .int y0), (0, .ref (h 0)), (1, .int x1), (2, .int x2), (3, .int x3), (4, .int x4)]) C dX5_follows_52 (by decide) rfl ?_
  refine z_iload (pc := 54) C 0 dX5_follows_54 rfl ?_
  refine z_if_eq (pc := 56) C 64 dX5_follows_56 (by decide) (fun hc1 => ?_) (fun hc1 => ?_)
  · have hf := bb_t hf hc1
    refine z_iload_n (pc := 64) (i := 2) C 3 dX5_follows_64 rfl rfl ?_
    refine z_lv [1, 2, 4, 5, 0] rfl ?_
    exact B_X5_follows_65 C hR hr h R hk8 hf
  · have hf := bb_e hf hc1
    refine z_iload (pc := 59) C 5 dX5_follows_59 rfl ?_
    refine z_goto (pc := 61) C 65 dX5_follows_61 (by decide) ?_
    refine z_lv [1, 2, 4, 5, 0] rfl ?_
    exact B_X5_follows_65 C hR hr h R hk8 hf
noncomputable def F_X5_follows_51 (s0 : bb_O) (k8 : Int32 → Int32 → Int32 → Int32 → Option Int32) (x1 : Int32) (x2 : Int32) (x3 : Int32) (x4 : Int32) : Option Int32 := F_X5_follows_52 s0 k8 x1 x2 x3 x4 ((0 : Int32))
set_option maxHeartbeats 4000000 in
set_option maxRecDepth 100000 in
theorem B_X5_follows_51 {X : bb_X} (C : bb_C X RX5 cX5_follows 6) (hR : bb_r X 4) (hr : X.meth.sig.returnType = (some .int)) (h : Nat → Nat) {z : Int32} {s0 : bb_O} (R : bb_R X (some (.int z)) (wX5 X.cs h s0)) {k8 : Int32 → Int32 → Int32 → Int32 → Option Int32} (hk8 : ∀ (x1 : Int32) (x2 : Int32) (x3 : Int32) (x4 : Int32), k8 x1 x2 x3 x4 = some z → bb_Z X 6 (wX5 X.cs h s0) 8 [(0, .ref (h 0)), (1, .int x1), (2, .int x2), (3, .int x3), (4, .int x4)] []) {x1 : Int32} {x2 : Int32} {x3 : Int32} {x4 : Int32} (hf : F_X5_follows_51 s0 k8 x1 x2 x3 x4 = some z) : bb_Z X 6 (wX5 X.cs h s0) 51 [(0, .ref (h 0)), (1, .int x1), (2, .int x2), (3, .int x3), (4, .int x4)] [] := by
  refine z_iconst (pc := 51) C (0 : Int32) dX5_follows_51 (by decide) ?_
  exact B_X5_follows_52 C hR hr h R hk8 hf
noncomputable def G_X5_follows_8 (s0 : bb_O) (k8 : Int32 → Int32 → Int32 → Int32 → Option Int32) (x1 : Int32) (x2 : Int32) (x3 : Int32) (x4 : Int32) : Option Int32 := if (s0.2.1 0 2) ≤ x4 then (some x2) else ((F_X5_isFree_0 s0 x4).bind (fun q2 => if q2 = 0 then (F_X5_follows_51 s0 k8 x1 x2 x3 x4) else (if ((x1 >>> (x4 &&& 31)) &&& ((1 : Int32))) = 0 then ((F_X5_loud_0 s0 x4).bind (fun q5 => if q5 ≤ x3 then (F_X5_follows_51 s0 k8 x1 x2 x3 x4) else (F_X5_follows_52 s0 k8 x1 x2 x3 x4 ((1 : Int32))))) else (F_X5_follows_51 s0 k8 x1 x2 x3 x4))))
noncomputable def F_X5_follows_8 (s0 : bb_O) : Nat → Int32 → Int32 → Int32 → Int32 → Option Int32
  | 0, _, _, _, _ => none
  | n + 1, x1, x2, x3, x4 => G_X5_follows_8 s0 (F_X5_follows_8 s0 n) x1 x2 x3 x4
set_option maxHeartbeats 4000000 in
set_option maxRecDepth 100000 in
theorem A_X5_follows_8 {X : bb_X} (C : bb_C X RX5 cX5_follows 6) (hR : bb_r X 4) (hr : X.meth.sig.returnType = (some .int)) (h : Nat → Nat) {z : Int32} {s0 : bb_O} (R : bb_R X (some (.int z)) (wX5 X.cs h s0)) {k8 : Int32 → Int32 → Int32 → Int32 → Option Int32} (hk8 : ∀ (x1 : Int32) (x2 : Int32) (x3 : Int32) (x4 : Int32), k8 x1 x2 x3 x4 = some z → bb_Z X 6 (wX5 X.cs h s0) 8 [(0, .ref (h 0)), (1, .int x1), (2, .int x2), (3, .int x3), (4, .int x4)] []) {x1 : Int32} {x2 : Int32} {x3 : Int32} {x4 : Int32} (hf : G_X5_follows_8 s0 k8 x1 x2 x3 x4 = some z) : bb_Z X 6 (wX5 X.cs h s0) 8 [(0, .ref (h 0)), (1, .int x1), (2, .int x2), (3, .int x3), (4, .int x4)] [] := by
  refine z_iload (pc := 8) C 4 dX5_follows_8 rfl ?_
  refine z_aload_n (pc := 10) (i := 0) C 0 dX5_follows_10 rfl rfl ?_
  refine z_get (pc := 11) (ci := 5) C (.ref (h 1)) bi_X5 rfl 0 0 (by decide) rfl bf_X5_7 rfl rfl dX5_follows_11 ?_
  refine z_iconst (pc := 14) C (2 : Int32) dX5_follows_14 (by decide) ?_
  refine z_iald (pc := 15) C 1 0 (2) rfl rfl (show ¬ ((2 : Int32) < 0 ∨ 39 ≤ (2 : Int32).toNatClampNeg) by decide) (by decide) dX5_follows_15 ?_
  refine z_icmp_ge (pc := 16) C 88 dX5_follows_16 (by decide) (fun hc1 => ?_) (fun hc1 => ?_)
  · have hf := bb_t hf hc1
    refine z_iload_n (pc := 88) (i := 2) C 2 dX5_follows_88 rfl rfl ?_
    obtain rfl := Option.some.inj hf
    exact z_iret (pc := 89) C hr R dX5_follows_89
  · have hf := bb_e hf hc1
    refine z_aload_n (pc := 19) (i := 0) C 0 dX5_follows_19 rfl rfl ?_
    refine z_iload (pc := 20) C 4 dX5_follows_20 rfl ?_
    obtain ⟨q2, hq2, hf⟩ := bb_b_some hf
    refine z_callVi (pc := 22) (ci := 5) (q0 := 0) (As := [.int x4]) (rest := []) C (hR.le (by decide)) (c_X5_isFree h hq2) (bb_cut_self _ _) bv_X5_isFree bm_X5_67 rfl rfl rfl rfl (Nat.le_of_ble_eq_true rfl) dX5_follows_22 ?_
    refine z_if_eq (pc := 25) C 51 dX5_follows_25 (by decide) (fun hc3 => ?_) (fun hc3 => ?_)
    · have hf := bb_t hf hc3
      exact B_X5_follows_51 C hR hr h R hk8 hf
    · have hf := bb_e hf hc3
      refine z_iload_n (pc := 28) (i := 1) C 1 dX5_follows_28 rfl rfl ?_
      refine z_iload (pc := 29) C 4 dX5_follows_29 rfl ?_
      refine z_ishr (pc := 31) C dX5_follows_31 ?_
      refine z_iconst (pc := 32) C (1 : Int32) dX5_follows_32 (by decide) ?_
      refine z_iand (pc := 33) C dX5_follows_33 ?_
      refine z_if_ne (pc := 34) C 51 dX5_follows_34 (by decide) (fun hc4 => ?_) (fun hc4 => ?_)
      · have hf := bb_e hf hc4
        exact B_X5_follows_51 C hR hr h R hk8 hf
      · have hf := bb_t hf hc4
        refine z_aload_n (pc := 37) (i := 0) C 0 dX5_follows_37 rfl rfl ?_
        refine z_iload (pc := 38) C 4 dX5_follows_38 rfl ?_
        obtain ⟨q5, hq5, hf⟩ := bb_b_some hf
        refine z_callVi (pc := 40) (ci := 5) (q0 := 0) (As := [.int x4]) (rest := []) C (hR.le (by decide)) (c_X5_loud h hq5) (bb_cut_self _ _) bv_X5_loud bm_X5_71 rfl rfl rfl rfl (Nat.le_of_ble_eq_true rfl) dX5_follows_40 ?_
        refine z_iload_n (pc := 43) (i := 3) C 3 dX5_follows_43 rfl rfl ?_
        refine z_icmp_le (pc := 44) C 51 dX5_follows_44 (by decide) (fun hc6 => ?_) (fun hc6 => ?_)
        · have hf := bb_t hf hc6
          exact B_X5_follows_51 C hR hr h R hk8 hf
        · have hf := bb_e hf hc6
          refine z_iconst (pc := 47) C (1 : Int32) dX5_follows_47 (by decide) ?_
          refine z_goto (pc := 48) C 52 dX5_follows_48 (by decide) ?_
          exact B_X5_follows_52 C hR hr h R hk8 hf
theorem B_X5_follows_8 {X : bb_X} (C : bb_C X RX5 cX5_follows 6) (hR : bb_r X 4) (hr : X.meth.sig.returnType = (some .int)) (h : Nat → Nat) {z : Int32} {s0 : bb_O} (R : bb_R X (some (.int z)) (wX5 X.cs h s0)) : ∀ (n : Nat) (x1 : Int32) (x2 : Int32) (x3 : Int32) (x4 : Int32), F_X5_follows_8 s0 n x1 x2 x3 x4 = some z → bb_Z X 6 (wX5 X.cs h s0) 8 [(0, .ref (h 0)), (1, .int x1), (2, .int x2), (3, .int x3), (4, .int x4)] [] := by
  intro n
  induction n with
  | zero =>
    intro x1 x2 x3 x4 hf
    cases hf
  | succ n ih =>
    intro x1 x2 x3 x4 hf
    exact A_X5_follows_8 C hR hr h R  ih hf
noncomputable def F_X5_follows_0 (s0 : bb_O) (x1 : Int32) : Option Int32 := F_X5_follows_8 s0 bb_N x1 ((-4 : Int32)) ((0 : Int32)) ((0 : Int32))
set_option maxHeartbeats 4000000 in
set_option maxRecDepth 100000 in
theorem B_X5_follows_0 {X : bb_X} (C : bb_C X RX5 cX5_follows 6) (hR : bb_r X 4) (hr : X.meth.sig.returnType = (some .int)) (h : Nat → Nat) {z : Int32} {s0 : bb_O} (R : bb_R X (some (.int z)) (wX5 X.cs h s0)) {x1 : Int32} (hf : F_X5_follows_0 s0 x1 = some z) : bb_Z X 6 (wX5 X.cs h s0) 0 [(0, .ref (h 0)), (1, .int x1)] [] := by
  refine z_bipush (pc := 0) C (-4 : Int32) dX5_follows_0 (by decide) ?_
  refine z_istore_n (pc := 2) (i := 2) (lv' := [(2, .int ((-4 : Int32))), (0, .ref (h 0)), (1, .int x1)]) C dX5_follows_2 rfl (by decide) rfl ?_
  refine z_iconst (pc := 3) C (0 : Int32) dX5_follows_3 (by decide) ?_
  refine z_istore_n (pc := 4) (i := 3) (lv' := [(3, .int ((0 : Int32))), (2, .int ((-4 : Int32))), (0, .ref (h 0)), (1, .int x1)]) C dX5_follows_4 rfl (by decide) rfl ?_
  refine z_iconst (pc := 5) C (0 : Int32) dX5_follows_5 (by decide) ?_
  refine z_istore (pc := 6) (lv' := [(4, .int ((0 : Int32))), (3, .int ((0 : Int32))), (2, .int ((-4 : Int32))), (0, .ref (h 0)), (1, .int x1)]) C dX5_follows_6 (by decide) rfl ?_
  refine z_lv [3, 4, 2, 1, 0] rfl ?_
  exact B_X5_follows_8 C hR hr h R  bb_N _ _ _ _ hf
theorem c_X5_follows {l : Launch} {D : va_G} {cs : Nat → ClassId} (h : Nat → Nat) {s0 : bb_O} {x1 : Int32} {z : Int32} (hf : F_X5_follows_0 s0 x1 = some z) : bb_M l yX5_follows cX5_follows 6 (some .int) 4 D cs [.ref (h 0), .int x1] (some (.int z)) (wX5 cs h s0) (wX5 cs h s0) := bb_mg (by decide) rfl (Nat.le_of_ble_eq_true rfl) rfl (fun X hl hD hcs C hR hr R => by
  subst hl
  subst hD
  subst hcs
  exact B_X5_follows_0 C hR hr h R hf)
/-! X5_nearer: reads, level 1 -/
noncomputable def F_X5_nearer_19 (y0 : Int32) : Option Int32 := some y0
set_option maxHeartbeats 4000000 in
set_option maxRecDepth 100000 in
theorem B_X5_nearer_19 {X : bb_X} (C : bb_C X RX5 cX5_nearer 2) (hR : bb_r X 1) (hr : X.meth.sig.returnType = (some .int)) {z : Int32} (R : bb_R X (some (.int z)) ([])) {y0 : Int32} (hf : F_X5_nearer_19 y0 = some z) : bb_Z X 2 ([]) 19 [] [.int y0] := by
  obtain rfl := Option.some.inj hf
  exact z_iret (pc := 19) C hr R dX5_nearer_19
noncomputable def F_X5_nearer_0 (x0 : Int32) (x1 : Int32) : Option Int32 := if x1 ≤ x0 then (if x0 ≤ x1 then (F_X5_nearer_19 ((0 : Int32))) else (F_X5_nearer_19 ((-1 : Int32)))) else (F_X5_nearer_19 ((1 : Int32)))
set_option maxHeartbeats 4000000 in
set_option maxRecDepth 100000 in
theorem B_X5_nearer_0 {X : bb_X} (C : bb_C X RX5 cX5_nearer 2) (hR : bb_r X 1) (hr : X.meth.sig.returnType = (some .int)) {z : Int32} (R : bb_R X (some (.int z)) ([])) {x0 : Int32} {x1 : Int32} (hf : F_X5_nearer_0 x0 x1 = some z) : bb_Z X 2 ([]) 0 [(0, .int x0), (1, .int x1)] [] := by
  refine z_iload_n (pc := 0) (i := 0) C 0 dX5_nearer_0 rfl rfl ?_
  refine z_iload_n (pc := 1) (i := 1) C 1 dX5_nearer_1 rfl rfl ?_
  refine z_icmp_ge (pc := 2) C 9 dX5_nearer_2 (by decide) (fun hc1 => ?_) (fun hc1 => ?_)
  · have hf := bb_t hf hc1
    refine z_iload_n (pc := 9) (i := 0) C 0 dX5_nearer_9 rfl rfl ?_
    refine z_iload_n (pc := 10) (i := 1) C 1 dX5_nearer_10 rfl rfl ?_
    refine z_icmp_le (pc := 11) C 18 dX5_nearer_11 (by decide) (fun hc2 => ?_) (fun hc2 => ?_)
    · have hf := bb_t hf hc2
      refine z_iconst (pc := 18) C (0 : Int32) dX5_nearer_18 (by decide) ?_
      refine z_lv [] rfl ?_
      exact B_X5_nearer_19 C hR hr  R  hf
    · have hf := bb_e hf hc2
      refine z_iconst (pc := 14) C (-1 : Int32) dX5_nearer_14 (by decide) ?_
      refine z_goto (pc := 15) C 19 dX5_nearer_15 (by decide) ?_
      refine z_lv [] rfl ?_
      exact B_X5_nearer_19 C hR hr  R  hf
  · have hf := bb_e hf hc1
    refine z_iconst (pc := 5) C (1 : Int32) dX5_nearer_5 (by decide) ?_
    refine z_goto (pc := 6) C 19 dX5_nearer_6 (by decide) ?_
    refine z_lv [] rfl ?_
    exact B_X5_nearer_19 C hR hr  R  hf
theorem c_X5_nearer {l : Launch} {D : va_G} {cs : Nat → ClassId} {x0 : Int32} {x1 : Int32} {z : Int32} (hf : F_X5_nearer_0 x0 x1 = some z) : bb_M l yX5_nearer cX5_nearer 2 (some .int) 1 D cs [.int x0, .int x1] (some (.int z)) ([]) ([]) := bb_mg (by decide) rfl (Nat.le_of_ble_eq_true rfl) rfl (fun X hl hD hcs C hR hr R => by
  subst hl
  subst hD
  subst hcs
  exact B_X5_nearer_0 C hR hr  R hf)
/-! X5_goesBy: writes, level 5 -/
noncomputable def F_X5_goesBy_221 (s0 : bb_O) : Option (Int32 × bb_O) := some ((1 : Int32), s0)
set_option maxHeartbeats 4000000 in
set_option maxRecDepth 100000 in
theorem B_X5_goesBy_221 {X : bb_X} (C : bb_C X RX5 cX5_goesBy 5) (hR : bb_r X 5) (hr : X.meth.sig.returnType = (some .boolean)) (h : Nat → Nat) {z : (Int32 × bb_O)} (R : bb_R X (some (.int z.1)) (wX5 X.cs h z.2)) {s0 : bb_O} (hf : F_X5_goesBy_221 s0 = some z) : bb_Z X 5 (wX5 X.cs h s0) 221 [] [] := by
  refine z_iconst (pc := 221) C (1 : Int32) dX5_goesBy_221 (by decide) ?_
  obtain rfl := Option.some.inj hf
  exact z_zret (pc := 222) C hr (bb_nz (Or.inr rfl)) R dX5_goesBy_222
noncomputable def F_X5_goesBy_216 (s0 : bb_O) (y0 : Int32) : Option (Int32 × bb_O) := bb_g (vp_in y0 39) (bb_g (vp_in y0 39) (F_X5_goesBy_221 (bb_sA s0 0 (upd (s0.2.1 0) y0.toNatClampNeg ((s0.2.1 0 y0.toNatClampNeg) + ((1 : Int32)))))))
set_option maxHeartbeats 4000000 in
set_option maxRecDepth 100000 in
theorem B_X5_goesBy_216 {X : bb_X} (C : bb_C X RX5 cX5_goesBy 5) (hR : bb_r X 5) (hr : X.meth.sig.returnType = (some .boolean)) (h : Nat → Nat) {z : (Int32 × bb_O)} (R : bb_R X (some (.int z.1)) (wX5 X.cs h z.2)) {s0 : bb_O} {y0 : Int32} (hf : F_X5_goesBy_216 s0 y0 = some z) : bb_Z X 5 (wX5 X.cs h s0) 216 [] [.int y0, .ref (h 1)] := by
  refine z_dup2 (pc := 216) C dX5_goesBy_216 rfl rfl ?_
  obtain ⟨hv1, hf⟩ := bb_g_some hf
  refine z_iald (pc := 217) C 1 0 (y0.toNatClampNeg) rfl rfl hv1 rfl dX5_goesBy_217 ?_
  refine z_iconst (pc := 218) C (1 : Int32) dX5_goesBy_218 (by decide) ?_
  refine z_iadd (pc := 219) C dX5_goesBy_219 ?_
  obtain ⟨hv2, hf⟩ := bb_g_some hf
  refine z_iast (pc := 220) (ws' := wX5 X.cs h (bb_sA s0 0 (upd (s0.2.1 0) y0.toNatClampNeg ((s0.2.1 0 y0.toNatClampNeg) + ((1 : Int32)))))) C 1 0 (y0.toNatClampNeg) rfl rfl hv2 rfl rfl dX5_goesBy_220 ?_
  exact B_X5_goesBy_221 C hR hr h R  hf
noncomputable def F_X5_goesBy_194 (s0 : bb_O) : Option (Int32 × bb_O) := if (s0.1 2) = (s0.1 1) then (F_X5_goesBy_216 s0 ((6 : Int32))) else (F_X5_goesBy_216 s0 ((7 : Int32)))
set_option maxHeartbeats 4000000 in
set_option maxRecDepth 100000 in
theorem B_X5_goesBy_194 {X : bb_X} (C : bb_C X RX5 cX5_goesBy 5) (hR : bb_r X 5) (hr : X.meth.sig.returnType = (some .boolean)) (h : Nat → Nat) {z : (Int32 × bb_O)} (R : bb_R X (some (.int z.1)) (wX5 X.cs h z.2)) {s0 : bb_O} (hf : F_X5_goesBy_194 s0 = some z) : bb_Z X 5 (wX5 X.cs h s0) 194 [(0, .ref (h 0))] [] := by
  refine z_aload_n (pc := 194) (i := 0) C 0 dX5_goesBy_194 rfl rfl ?_
  refine z_get (pc := 195) (ci := 5) C (.ref (h 1)) bi_X5 rfl 0 0 (by decide) rfl bf_X5_7 rfl rfl dX5_goesBy_195 ?_
  refine z_aload_n (pc := 198) (i := 0) C 0 dX5_goesBy_198 rfl rfl ?_
  refine z_get (pc := 199) (ci := 5) C (.int (s0.1 2)) bi_X5 rfl 0 2 (by decide) rfl bf_X5_86 rfl rfl dX5_goesBy_199 ?_
  refine z_aload_n (pc := 202) (i := 0) C 0 dX5_goesBy_202 rfl rfl ?_
  refine z_get (pc := 203) (ci := 5) C (.int (s0.1 1)) bi_X5 rfl 0 1 (by decide) rfl bf_X5_80 rfl rfl dX5_goesBy_203 ?_
  refine z_icmp_ne (pc := 206) C 214 dX5_goesBy_206 (by decide) (fun hc1 => ?_) (fun hc1 => ?_)
  · have hf := bb_e hf hc1
    refine z_bipush (pc := 214) C (7 : Int32) dX5_goesBy_214 (by decide) ?_
    refine z_lv [] rfl ?_
    exact B_X5_goesBy_216 C hR hr h R  hf
  · have hf := bb_t hf hc1
    refine z_bipush (pc := 209) C (6 : Int32) dX5_goesBy_209 (by decide) ?_
    refine z_goto (pc := 211) C 216 dX5_goesBy_211 (by decide) ?_
    refine z_lv [] rfl ?_
    exact B_X5_goesBy_216 C hR hr h R  hf
noncomputable def F_X5_goesBy_179 (s0 : bb_O) : Option (Int32 × bb_O) := F_X5_goesBy_194 (bb_sA s0 0 (upd (s0.2.1 0) 5 ((s0.2.1 0 5) ||| (((1 : Int32)) <<< ((s0.1 1) &&& 31)))))
set_option maxHeartbeats 4000000 in
set_option maxRecDepth 100000 in
theorem B_X5_goesBy_179 {X : bb_X} (C : bb_C X RX5 cX5_goesBy 5) (hR : bb_r X 5) (hr : X.meth.sig.returnType = (some .boolean)) (h : Nat → Nat) {z : (Int32 × bb_O)} (R : bb_R X (some (.int z.1)) (wX5 X.cs h z.2)) {s0 : bb_O} (hf : F_X5_goesBy_179 s0 = some z) : bb_Z X 5 (wX5 X.cs h s0) 179 [(0, .ref (h 0))] [] := by
  refine z_aload_n (pc := 179) (i := 0) C 0 dX5_goesBy_179 rfl rfl ?_
  refine z_get (pc := 180) (ci := 5) C (.ref (h 1)) bi_X5 rfl 0 0 (by decide) rfl bf_X5_7 rfl rfl dX5_goesBy_180 ?_
  refine z_iconst (pc := 183) C (5 : Int32) dX5_goesBy_183 (by decide) ?_
  refine z_dup2 (pc := 184) C dX5_goesBy_184 rfl rfl ?_
  refine z_iald (pc := 185) C 1 0 (5) rfl rfl (show ¬ ((5 : Int32) < 0 ∨ 39 ≤ (5 : Int32).toNatClampNeg) by decide) (by decide) dX5_goesBy_185 ?_
  refine z_iconst (pc := 186) C (1 : Int32) dX5_goesBy_186 (by decide) ?_
  refine z_aload_n (pc := 187) (i := 0) C 0 dX5_goesBy_187 rfl rfl ?_
  refine z_get (pc := 188) (ci := 5) C (.int (s0.1 1)) bi_X5 rfl 0 1 (by decide) rfl bf_X5_80 rfl rfl dX5_goesBy_188 ?_
  refine z_ishl (pc := 191) C dX5_goesBy_191 ?_
  refine z_ior (pc := 192) C dX5_goesBy_192 ?_
  refine z_iast (pc := 193) (ws' := wX5 X.cs h (bb_sA s0 0 (upd (s0.2.1 0) 5 ((s0.2.1 0 5) ||| (((1 : Int32)) <<< ((s0.1 1) &&& 31)))))) C 1 0 (5) rfl rfl (show ¬ ((5 : Int32) < 0 ∨ 39 ≤ (5 : Int32).toNatClampNeg) by decide) (by decide) rfl dX5_goesBy_193 ?_
  exact B_X5_goesBy_194 C hR hr h R  hf
noncomputable def F_X5_goesBy_147 (s0 : bb_O) : Option (Int32 × bb_O) := if (s0.1 1) = ((-4 : Int32)) then (some ((0 : Int32), s0)) else ((F_X5_told_0 s0 (s0.1 1) ((4 : Int32))).bind (fun q2 => (F_X5_named_0 s0 (s0.1 1) q2).bind (fun q3 => F_X5_goesBy_179 (bb_sf s0 2 q3))))
set_option maxHeartbeats 4000000 in
set_option maxRecDepth 100000 in
theorem B_X5_goesBy_147 {X : bb_X} (C : bb_C X RX5 cX5_goesBy 5) (hR : bb_r X 5) (hr : X.meth.sig.returnType = (some .boolean)) (h : Nat → Nat) {z : (Int32 × bb_O)} (R : bb_R X (some (.int z.1)) (wX5 X.cs h z.2)) {s0 : bb_O} (hf : F_X5_goesBy_147 s0 = some z) : bb_Z X 5 (wX5 X.cs h s0) 147 [(0, .ref (h 0))] [] := by
  refine z_aload_n (pc := 147) (i := 0) C 0 dX5_goesBy_147 rfl rfl ?_
  refine z_get (pc := 148) (ci := 5) C (.int (s0.1 1)) bi_X5 rfl 0 1 (by decide) rfl bf_X5_80 rfl rfl dX5_goesBy_148 ?_
  refine z_bipush (pc := 151) C (-4 : Int32) dX5_goesBy_151 (by decide) ?_
  refine z_icmp_ne (pc := 153) C 158 dX5_goesBy_153 (by decide) (fun hc1 => ?_) (fun hc1 => ?_)
  · have hf := bb_e hf hc1
    refine z_aload_n (pc := 158) (i := 0) C 0 dX5_goesBy_158 rfl rfl ?_
    refine z_aload_n (pc := 159) (i := 0) C 0 dX5_goesBy_159 rfl rfl ?_
    refine z_aload_n (pc := 160) (i := 0) C 0 dX5_goesBy_160 rfl rfl ?_
    refine z_get (pc := 161) (ci := 5) C (.int (s0.1 1)) bi_X5 rfl 0 1 (by decide) rfl bf_X5_80 rfl rfl dX5_goesBy_161 ?_
    refine z_aload_n (pc := 164) (i := 0) C 0 dX5_goesBy_164 rfl rfl ?_
    refine z_aload_n (pc := 165) (i := 0) C 0 dX5_goesBy_165 rfl rfl ?_
    refine z_get (pc := 166) (ci := 5) C (.int (s0.1 1)) bi_X5 rfl 0 1 (by decide) rfl bf_X5_80 rfl rfl dX5_goesBy_166 ?_
    refine z_iconst (pc := 169) C (4 : Int32) dX5_goesBy_169 (by decide) ?_
    obtain ⟨q2, hq2, hf⟩ := bb_b_some hf
    refine z_callVi (pc := 170) (ci := 5) (q0 := 0) (As := [.int (s0.1 1), .int ((4 : Int32))]) (rest := [.int (s0.1 1), .ref (h 0), .ref (h 0)]) C (hR.le (by decide)) (c_X5_told h hq2) (bb_cut_self _ _) bv_X5_told bm_X5_53 rfl rfl rfl rfl (Nat.le_of_ble_eq_true rfl) dX5_goesBy_170 ?_
    obtain ⟨q3, hq3, hf⟩ := bb_b_some hf
    refine z_callVi (pc := 173) (ci := 5) (q0 := 0) (As := [.int (s0.1 1), .int q2]) (rest := [.ref (h 0)]) C (hR.le (by decide)) (c_X5_named h hq3) (bb_cut_self _ _) bv_X5_named bm_X5_83 rfl rfl rfl rfl (Nat.le_of_ble_eq_true rfl) dX5_goesBy_173 ?_
    refine z_put (pc := 176) (ci := 5) (ty := .int) (ws' := wX5 X.cs h (bb_sf s0 2 q3)) C bi_X5 tyX5_ok nmX5 rfl 0 2 (by decide) rfl bf_X5_86 rfl rfl rfl rfl rfl (Nat.le_of_ble_eq_true rfl) rfl dX5_goesBy_176 ?_
    exact B_X5_goesBy_179 C hR hr h R  hf
  · have hf := bb_t hf hc1
    refine z_iconst (pc := 156) C (0 : Int32) dX5_goesBy_156 (by decide) ?_
    obtain rfl := Option.some.inj hf
    exact z_zret (pc := 157) C hr (bb_nz (Or.inl rfl)) R dX5_goesBy_157
noncomputable def F_X5_goesBy_131 (k92 : bb_O → Int32 → Option (Int32 × bb_O)) (s0 : bb_O) (x2 : Int32) : Option (Int32 × bb_O) := k92 s0 (x2 + (-1))
set_option maxHeartbeats 4000000 in
set_option maxRecDepth 100000 in
theorem B_X5_goesBy_131 {X : bb_X} (C : bb_C X RX5 cX5_goesBy 5) (hR : bb_r X 5) (hr : X.meth.sig.returnType = (some .boolean)) (h : Nat → Nat) {z : (Int32 × bb_O)} (R : bb_R X (some (.int z.1)) (wX5 X.cs h z.2)) {k92 : bb_O → Int32 → Option (Int32 × bb_O)} (hk92 : ∀ (s0 : bb_O) (x2 : Int32), k92 s0 x2 = some z → bb_Z X 5 (wX5 X.cs h s0) 92 [(0, .ref (h 0)), (2, .int x2)] []) {s0 : bb_O} {x2 : Int32} (hf : F_X5_goesBy_131 k92 s0 x2 = some z) : bb_Z X 5 (wX5 X.cs h s0) 131 [(0, .ref (h 0)), (2, .int x2)] [] := by
  refine z_iinc (pc := 131) (lv' := [(2, .int (x2 + (-1))), (0, .ref (h 0))]) C (x2 + (-1)) 1 dX5_goesBy_131 rfl rfl (by decide) rfl ?_
  refine z_goto (pc := 134) C 92 dX5_goesBy_134 (by decide) ?_
  refine z_lv [1, 0] rfl ?_
  exact hk92 _ _ hf
noncomputable def F_X5_goesBy_128 (k92 : bb_O → Int32 → Option (Int32 × bb_O)) (s0 : bb_O) (x2 : Int32) (y0 : Int32) : Option (Int32 × bb_O) := F_X5_goesBy_131 k92 (bb_sf s0 1 y0) x2
set_option maxHeartbeats 4000000 in
set_option maxRecDepth 100000 in
theorem B_X5_goesBy_128 {X : bb_X} (C : bb_C X RX5 cX5_goesBy 5) (hR : bb_r X 5) (hr : X.meth.sig.returnType = (some .boolean)) (h : Nat → Nat) {z : (Int32 × bb_O)} (R : bb_R X (some (.int z.1)) (wX5 X.cs h z.2)) {k92 : bb_O → Int32 → Option (Int32 × bb_O)} (hk92 : ∀ (s0 : bb_O) (x2 : Int32), k92 s0 x2 = some z → bb_Z X 5 (wX5 X.cs h s0) 92 [(0, .ref (h 0)), (2, .int x2)] []) {s0 : bb_O} {x2 : Int32} {y0 : Int32} (hf : F_X5_goesBy_128 k92 s0 x2 y0 = some z) : bb_Z X 5 (wX5 X.cs h s0) 128 [(0, .ref (h 0)), (2, .int x2)] [.int y0, .ref (h 0)] := by
  refine z_put (pc := 128) (ci := 5) (ty := .int) (ws' := wX5 X.cs h (bb_sf s0 1 y0)) C bi_X5 tyX5_ok nmX5 rfl 0 1 (by decide) rfl bf_X5_80 rfl rfl rfl rfl rfl (Nat.le_of_ble_eq_true rfl) rfl dX5_goesBy_128 ?_
  exact B_X5_goesBy_131 C hR hr h R hk92 hf
noncomputable def F_X5_goesBy_124 (k92 : bb_O → Int32 → Option (Int32 × bb_O)) (s0 : bb_O) (x2 : Int32) : Option (Int32 × bb_O) := F_X5_goesBy_128 k92 s0 x2 (s0.1 1)
set_option maxHeartbeats 4000000 in
set_option maxRecDepth 100000 in
theorem B_X5_goesBy_124 {X : bb_X} (C : bb_C X RX5 cX5_goesBy 5) (hR : bb_r X 5) (hr : X.meth.sig.returnType = (some .boolean)) (h : Nat → Nat) {z : (Int32 × bb_O)} (R : bb_R X (some (.int z.1)) (wX5 X.cs h z.2)) {k92 : bb_O → Int32 → Option (Int32 × bb_O)} (hk92 : ∀ (s0 : bb_O) (x2 : Int32), k92 s0 x2 = some z → bb_Z X 5 (wX5 X.cs h s0) 92 [(0, .ref (h 0)), (2, .int x2)] []) {s0 : bb_O} {x2 : Int32} (hf : F_X5_goesBy_124 k92 s0 x2 = some z) : bb_Z X 5 (wX5 X.cs h s0) 124 [(0, .ref (h 0)), (2, .int x2)] [.ref (h 0)] := by
  refine z_aload_n (pc := 124) (i := 0) C 0 dX5_goesBy_124 rfl rfl ?_
  refine z_get (pc := 125) (ci := 5) C (.int (s0.1 1)) bi_X5 rfl 0 1 (by decide) rfl bf_X5_80 rfl rfl dX5_goesBy_125 ?_
  exact B_X5_goesBy_128 C hR hr h R hk92 hf
noncomputable def G_X5_goesBy_92 (k92 : bb_O → Int32 → Option (Int32 × bb_O)) (s0 : bb_O) (x2 : Int32) : Option (Int32 × bb_O) := if x2 < 0 then (F_X5_goesBy_147 (bb_sA s0 0 (upd (s0.2.1 0) 4 ((s0.2.1 0 4) + ((1 : Int32)))))) else ((F_X5_isFree_0 s0 x2).bind (fun q2 => if q2 = 0 then (F_X5_goesBy_124 k92 s0 x2) else ((F_X5_told_0 s0 x2 ((1 : Int32))).bind (fun q4 => if q4 = (s0.2.1 0 3) then (F_X5_goesBy_128 k92 s0 x2 x2) else (F_X5_goesBy_124 k92 s0 x2)))))
noncomputable def F_X5_goesBy_92  : Nat → bb_O → Int32 → Option (Int32 × bb_O)
  | 0, _, _ => none
  | n + 1, s0, x2 => G_X5_goesBy_92  (F_X5_goesBy_92  n) s0 x2
set_option maxHeartbeats 4000000 in
set_option maxRecDepth 100000 in
theorem A_X5_goesBy_92 {X : bb_X} (C : bb_C X RX5 cX5_goesBy 5) (hR : bb_r X 5) (hr : X.meth.sig.returnType = (some .boolean)) (h : Nat → Nat) {z : (Int32 × bb_O)} (R : bb_R X (some (.int z.1)) (wX5 X.cs h z.2)) {k92 : bb_O → Int32 → Option (Int32 × bb_O)} (hk92 : ∀ (s0 : bb_O) (x2 : Int32), k92 s0 x2 = some z → bb_Z X 5 (wX5 X.cs h s0) 92 [(0, .ref (h 0)), (2, .int x2)] []) {s0 : bb_O} {x2 : Int32} (hf : G_X5_goesBy_92 k92 s0 x2 = some z) : bb_Z X 5 (wX5 X.cs h s0) 92 [(0, .ref (h 0)), (2, .int x2)] [] := by
  refine z_iload_n (pc := 92) (i := 2) C 1 dX5_goesBy_92 rfl rfl ?_
  refine z_if_lt (pc := 93) C 137 dX5_goesBy_93 (by decide) (fun hc1 => ?_) (fun hc1 => ?_)
  · have hf := bb_t hf hc1
    refine z_aload_n (pc := 137) (i := 0) C 0 dX5_goesBy_137 rfl rfl ?_
    refine z_get (pc := 138) (ci := 5) C (.ref (h 1)) bi_X5 rfl 0 0 (by decide) rfl bf_X5_7 rfl rfl dX5_goesBy_138 ?_
    refine z_iconst (pc := 141) C (4 : Int32) dX5_goesBy_141 (by decide) ?_
    refine z_dup2 (pc := 142) C dX5_goesBy_142 rfl rfl ?_
    refine z_iald (pc := 143) C 1 0 (4) rfl rfl (show ¬ ((4 : Int32) < 0 ∨ 39 ≤ (4 : Int32).toNatClampNeg) by decide) (by decide) dX5_goesBy_143 ?_
    refine z_iconst (pc := 144) C (1 : Int32) dX5_goesBy_144 (by decide) ?_
    refine z_iadd (pc := 145) C dX5_goesBy_145 ?_
    refine z_iast (pc := 146) (ws' := wX5 X.cs h (bb_sA s0 0 (upd (s0.2.1 0) 4 ((s0.2.1 0 4) + ((1 : Int32)))))) C 1 0 (4) rfl rfl (show ¬ ((4 : Int32) < 0 ∨ 39 ≤ (4 : Int32).toNatClampNeg) by decide) (by decide) rfl dX5_goesBy_146 ?_
    refine z_lv [0] rfl ?_
    exact B_X5_goesBy_147 C hR hr h R  hf
  · have hf := bb_e hf hc1
    refine z_aload_n (pc := 96) (i := 0) C 0 dX5_goesBy_96 rfl rfl ?_
    refine z_aload_n (pc := 97) (i := 0) C 0 dX5_goesBy_97 rfl rfl ?_
    refine z_iload_n (pc := 98) (i := 2) C 1 dX5_goesBy_98 rfl rfl ?_
    obtain ⟨q2, hq2, hf⟩ := bb_b_some hf
    refine z_callVi (pc := 99) (ci := 5) (q0 := 0) (As := [.int x2]) (rest := [.ref (h 0)]) C (hR.le (by decide)) (c_X5_isFree h hq2) (bb_cut_self _ _) bv_X5_isFree bm_X5_67 rfl rfl rfl rfl (Nat.le_of_ble_eq_true rfl) dX5_goesBy_99 ?_
    refine z_if_eq (pc := 102) C 124 dX5_goesBy_102 (by decide) (fun hc3 => ?_) (fun hc3 => ?_)
    · have hf := bb_t hf hc3
      exact B_X5_goesBy_124 C hR hr h R hk92 hf
    · have hf := bb_e hf hc3
      refine z_aload_n (pc := 105) (i := 0) C 0 dX5_goesBy_105 rfl rfl ?_
      refine z_iload_n (pc := 106) (i := 2) C 1 dX5_goesBy_106 rfl rfl ?_
      refine z_iconst (pc := 107) C (1 : Int32) dX5_goesBy_107 (by decide) ?_
      obtain ⟨q4, hq4, hf⟩ := bb_b_some hf
      refine z_callVi (pc := 108) (ci := 5) (q0 := 0) (As := [.int x2, .int ((1 : Int32))]) (rest := [.ref (h 0)]) C (hR.le (by decide)) (c_X5_told h hq4) (bb_cut_self _ _) bv_X5_told bm_X5_53 rfl rfl rfl rfl (Nat.le_of_ble_eq_true rfl) dX5_goesBy_108 ?_
      refine z_aload_n (pc := 111) (i := 0) C 0 dX5_goesBy_111 rfl rfl ?_
      refine z_get (pc := 112) (ci := 5) C (.ref (h 1)) bi_X5 rfl 0 0 (by decide) rfl bf_X5_7 rfl rfl dX5_goesBy_112 ?_
      refine z_iconst (pc := 115) C (3 : Int32) dX5_goesBy_115 (by decide) ?_
      refine z_iald (pc := 116) C 1 0 (3) rfl rfl (show ¬ ((3 : Int32) < 0 ∨ 39 ≤ (3 : Int32).toNatClampNeg) by decide) (by decide) dX5_goesBy_116 ?_
      refine z_icmp_ne (pc := 117) C 124 dX5_goesBy_117 (by decide) (fun hc5 => ?_) (fun hc5 => ?_)
      · have hf := bb_e hf hc5
        exact B_X5_goesBy_124 C hR hr h R hk92 hf
      · have hf := bb_t hf hc5
        refine z_iload_n (pc := 120) (i := 2) C 1 dX5_goesBy_120 rfl rfl ?_
        refine z_goto (pc := 121) C 128 dX5_goesBy_121 (by decide) ?_
        exact B_X5_goesBy_128 C hR hr h R hk92 hf
theorem B_X5_goesBy_92 {X : bb_X} (C : bb_C X RX5 cX5_goesBy 5) (hR : bb_r X 5) (hr : X.meth.sig.returnType = (some .boolean)) (h : Nat → Nat) {z : (Int32 × bb_O)} (R : bb_R X (some (.int z.1)) (wX5 X.cs h z.2)) : ∀ (n : Nat) (s0 : bb_O) (x2 : Int32), F_X5_goesBy_92  n s0 x2 = some z → bb_Z X 5 (wX5 X.cs h s0) 92 [(0, .ref (h 0)), (2, .int x2)] [] := by
  intro n
  induction n with
  | zero =>
    intro s0 x2 hf
    cases hf
  | succ n ih =>
    intro s0 x2 hf
    exact A_X5_goesBy_92 C hR hr h R  ih hf
noncomputable def F_X5_goesBy_83 (s0 : bb_O) : Option (Int32 × bb_O) := F_X5_goesBy_92 bb_N s0 ((s0.2.1 0 2) - ((1 : Int32)))
set_option maxHeartbeats 4000000 in
set_option maxRecDepth 100000 in
theorem B_X5_goesBy_83 {X : bb_X} (C : bb_C X RX5 cX5_goesBy 5) (hR : bb_r X 5) (hr : X.meth.sig.returnType = (some .boolean)) (h : Nat → Nat) {z : (Int32 × bb_O)} (R : bb_R X (some (.int z.1)) (wX5 X.cs h z.2)) {s0 : bb_O} (hf : F_X5_goesBy_83 s0 = some z) : bb_Z X 5 (wX5 X.cs h s0) 83 [(0, .ref (h 0))] [] := by
  refine z_aload_n (pc := 83) (i := 0) C 0 dX5_goesBy_83 rfl rfl ?_
  refine z_get (pc := 84) (ci := 5) C (.ref (h 1)) bi_X5 rfl 0 0 (by decide) rfl bf_X5_7 rfl rfl dX5_goesBy_84 ?_
  refine z_iconst (pc := 87) C (2 : Int32) dX5_goesBy_87 (by decide) ?_
  refine z_iald (pc := 88) C 1 0 (2) rfl rfl (show ¬ ((2 : Int32) < 0 ∨ 39 ≤ (2 : Int32).toNatClampNeg) by decide) (by decide) dX5_goesBy_88 ?_
  refine z_iconst (pc := 89) C (1 : Int32) dX5_goesBy_89 (by decide) ?_
  refine z_isub (pc := 90) C dX5_goesBy_90 ?_
  refine z_istore_n (pc := 91) (i := 2) (lv' := [(2, .int ((s0.2.1 0 2) - ((1 : Int32)))), (0, .ref (h 0))]) C dX5_goesBy_91 rfl (by decide) rfl ?_
  refine z_lv [1, 0] rfl ?_
  exact B_X5_goesBy_92 C hR hr h R  bb_N _ _ hf
noncomputable def F_X5_goesBy_77 (s0 : bb_O) : Option (Int32 × bb_O) := F_X5_goesBy_83 (bb_sf s0 1 ((-4 : Int32)))
set_option maxHeartbeats 4000000 in
set_option maxRecDepth 100000 in
theorem B_X5_goesBy_77 {X : bb_X} (C : bb_C X RX5 cX5_goesBy 5) (hR : bb_r X 5) (hr : X.meth.sig.returnType = (some .boolean)) (h : Nat → Nat) {z : (Int32 × bb_O)} (R : bb_R X (some (.int z.1)) (wX5 X.cs h z.2)) {s0 : bb_O} (hf : F_X5_goesBy_77 s0 = some z) : bb_Z X 5 (wX5 X.cs h s0) 77 [(0, .ref (h 0))] [] := by
  refine z_aload_n (pc := 77) (i := 0) C 0 dX5_goesBy_77 rfl rfl ?_
  refine z_bipush (pc := 78) C (-4 : Int32) dX5_goesBy_78 (by decide) ?_
  refine z_put (pc := 80) (ci := 5) (ty := .int) (ws' := wX5 X.cs h (bb_sf s0 1 ((-4 : Int32)))) C bi_X5 tyX5_ok nmX5 rfl 0 1 (by decide) rfl bf_X5_80 rfl rfl rfl rfl rfl (Nat.le_of_ble_eq_true rfl) rfl dX5_goesBy_80 ?_
  exact B_X5_goesBy_83 C hR hr h R  hf
noncomputable def F_X5_goesBy_75 (s0 : bb_O) (y0 : Int32) (y1 : Int32) (y2 : Int32) : Option (Int32 × bb_O) := bb_g (vp_in y2 39) (F_X5_goesBy_77 (bb_sA s0 0 (upd (s0.2.1 0) y2.toNatClampNeg (y1 + y0))))
set_option maxHeartbeats 4000000 in
set_option maxRecDepth 100000 in
theorem B_X5_goesBy_75 {X : bb_X} (C : bb_C X RX5 cX5_goesBy 5) (hR : bb_r X 5) (hr : X.meth.sig.returnType = (some .boolean)) (h : Nat → Nat) {z : (Int32 × bb_O)} (R : bb_R X (some (.int z.1)) (wX5 X.cs h z.2)) {s0 : bb_O} {y0 : Int32} {y1 : Int32} {y2 : Int32} (hf : F_X5_goesBy_75 s0 y0 y1 y2 = some z) : bb_Z X 5 (wX5 X.cs h s0) 75 [(0, .ref (h 0))] [.int y0, .int y1, .int y2, .ref (h 1)] := by
  refine z_iadd (pc := 75) C dX5_goesBy_75 ?_
  obtain ⟨hv1, hf⟩ := bb_g_some hf
  refine z_iast (pc := 76) (ws' := wX5 X.cs h (bb_sA s0 0 (upd (s0.2.1 0) y2.toNatClampNeg (y1 + y0)))) C 1 0 (y2.toNatClampNeg) rfl rfl hv1 rfl rfl dX5_goesBy_76 ?_
  exact B_X5_goesBy_77 C hR hr h R  hf
noncomputable def F_X5_goesBy_0 (s0 : bb_O) : Option (Int32 × bb_O) := (F_X5_follows_0 s0 ((0 : Int32))).bind (fun q1 => if q1 = ((-4 : Int32)) then (F_X5_goesBy_77 s0) else ((F_X5_told_0 s0 q1 ((1 : Int32))).bind (fun q3 => bb_g (¬ (s0.2.1 0 1) = 0) (bb_g (¬ (s0.2.1 0 1) = 0) ((F_X5_nearer_0 ((s0.2.1 0 3) / (s0.2.1 0 1)) (q3 / (s0.2.1 0 1))).bind (fun q6 => if q6 = 0 then (bb_g (¬ (s0.2.1 0 1) = 0) (bb_g (¬ (s0.2.1 0 1) = 0) ((F_X5_nearer_0 ((s0.2.1 0 3) % (s0.2.1 0 1)) (q3 % (s0.2.1 0 1))).bind (fun q10 => F_X5_goesBy_75 s0 q10 (s0.2.1 0 3) ((3 : Int32)))))) else (F_X5_goesBy_75 s0 (q6 * (s0.2.1 0 1)) (s0.2.1 0 3) ((3 : Int32)))))))))
set_option maxHeartbeats 4000000 in
set_option maxRecDepth 100000 in
theorem B_X5_goesBy_0 {X : bb_X} (C : bb_C X RX5 cX5_goesBy 5) (hR : bb_r X 5) (hr : X.meth.sig.returnType = (some .boolean)) (h : Nat → Nat) {z : (Int32 × bb_O)} (R : bb_R X (some (.int z.1)) (wX5 X.cs h z.2)) {s0 : bb_O} (hf : F_X5_goesBy_0 s0 = some z) : bb_Z X 5 (wX5 X.cs h s0) 0 [(0, .ref (h 0))] [] := by
  refine z_aload_n (pc := 0) (i := 0) C 0 dX5_goesBy_0 rfl rfl ?_
  refine z_iconst (pc := 1) C (0 : Int32) dX5_goesBy_1 (by decide) ?_
  obtain ⟨q1, hq1, hf⟩ := bb_b_some hf
  refine z_callVi (pc := 2) (ci := 5) (q0 := 0) (As := [.int ((0 : Int32))]) (rest := []) C (hR.le (by decide)) (c_X5_follows h hq1) (bb_cut_self _ _) bv_X5_follows bm_X5_74 rfl rfl rfl rfl (Nat.le_of_ble_eq_true rfl) dX5_goesBy_2 ?_
  refine z_istore_n (pc := 5) (i := 1) (lv' := [(1, .int q1), (0, .ref (h 0))]) C dX5_goesBy_5 rfl (by decide) rfl ?_
  refine z_iload_n (pc := 6) (i := 1) C 0 dX5_goesBy_6 rfl rfl ?_
  refine z_bipush (pc := 7) C (-4 : Int32) dX5_goesBy_7 (by decide) ?_
  refine z_icmp_eq (pc := 9) C 77 dX5_goesBy_9 (by decide) (fun hc2 => ?_) (fun hc2 => ?_)
  · have hf := bb_t hf hc2
    refine z_lv [1] rfl ?_
    exact B_X5_goesBy_77 C hR hr h R  hf
  · have hf := bb_e hf hc2
    refine z_aload_n (pc := 12) (i := 0) C 1 dX5_goesBy_12 rfl rfl ?_
    refine z_get (pc := 13) (ci := 5) C (.ref (h 1)) bi_X5 rfl 0 0 (by decide) rfl bf_X5_7 rfl rfl dX5_goesBy_13 ?_
    refine z_iconst (pc := 16) C (1 : Int32) dX5_goesBy_16 (by decide) ?_
    refine z_iald (pc := 17) C 1 0 (1) rfl rfl (show ¬ ((1 : Int32) < 0 ∨ 39 ≤ (1 : Int32).toNatClampNeg) by decide) (by decide) dX5_goesBy_17 ?_
    refine z_istore_n (pc := 18) (i := 2) (lv' := [(2, .int (s0.2.1 0 1)), (1, .int q1), (0, .ref (h 0))]) C dX5_goesBy_18 rfl (by decide) rfl ?_
    refine z_aload_n (pc := 19) (i := 0) C 2 dX5_goesBy_19 rfl rfl ?_
    refine z_iload_n (pc := 20) (i := 1) C 1 dX5_goesBy_20 rfl rfl ?_
    refine z_iconst (pc := 21) C (1 : Int32) dX5_goesBy_21 (by decide) ?_
    obtain ⟨q3, hq3, hf⟩ := bb_b_some hf
    refine z_callVi (pc := 22) (ci := 5) (q0 := 0) (As := [.int q1, .int ((1 : Int32))]) (rest := []) C (hR.le (by decide)) (c_X5_told h hq3) (bb_cut_self _ _) bv_X5_told bm_X5_53 rfl rfl rfl rfl (Nat.le_of_ble_eq_true rfl) dX5_goesBy_22 ?_
    refine z_istore_n (pc := 25) (i := 3) (lv' := [(3, .int q3), (2, .int (s0.2.1 0 1)), (1, .int q1), (0, .ref (h 0))]) C dX5_goesBy_25 rfl (by decide) rfl ?_
    refine z_aload_n (pc := 26) (i := 0) C 3 dX5_goesBy_26 rfl rfl ?_
    refine z_get (pc := 27) (ci := 5) C (.ref (h 1)) bi_X5 rfl 0 0 (by decide) rfl bf_X5_7 rfl rfl dX5_goesBy_27 ?_
    refine z_iconst (pc := 30) C (3 : Int32) dX5_goesBy_30 (by decide) ?_
    refine z_iald (pc := 31) C 1 0 (3) rfl rfl (show ¬ ((3 : Int32) < 0 ∨ 39 ≤ (3 : Int32).toNatClampNeg) by decide) (by decide) dX5_goesBy_31 ?_
    refine z_iload_n (pc := 32) (i := 2) C 1 dX5_goesBy_32 rfl rfl ?_
    obtain ⟨hn4, hf⟩ := bb_g_some hf
    refine z_idiv (pc := 33) C dX5_goesBy_33 hn4 ?_
    refine z_iload_n (pc := 34) (i := 3) C 0 dX5_goesBy_34 rfl rfl ?_
    refine z_iload_n (pc := 35) (i := 2) C 1 dX5_goesBy_35 rfl rfl ?_
    obtain ⟨hn5, hf⟩ := bb_g_some hf
    refine z_idiv (pc := 36) C dX5_goesBy_36 hn5 ?_
    obtain ⟨q6, hq6, hf⟩ := bb_b_some hf
    refine z_callSi (pc := 37) (As := [.int ((s0.2.1 0 3) / (s0.2.1 0 1)), .int (q3 / (s0.2.1 0 1))]) (rest := []) C (hR.le (by decide)) (c_X5_nearer hq6) (bb_cut_none _) bv_X5_nearer bm_X5_77 rfl rfl (Nat.le_of_ble_eq_true rfl) dX5_goesBy_37 ?_
    refine z_istore (pc := 40) (lv' := [(4, .int q6), (3, .int q3), (2, .int (s0.2.1 0 1)), (1, .int q1), (0, .ref (h 0))]) C dX5_goesBy_40 (by decide) rfl ?_
    refine z_aload_n (pc := 42) (i := 0) C 4 dX5_goesBy_42 rfl rfl ?_
    refine z_get (pc := 43) (ci := 5) C (.ref (h 1)) bi_X5 rfl 0 0 (by decide) rfl bf_X5_7 rfl rfl dX5_goesBy_43 ?_
    refine z_iconst (pc := 46) C (3 : Int32) dX5_goesBy_46 (by decide) ?_
    refine z_dup2 (pc := 47) C dX5_goesBy_47 rfl rfl ?_
    refine z_iald (pc := 48) C 1 0 (3) rfl rfl (show ¬ ((3 : Int32) < 0 ∨ 39 ≤ (3 : Int32).toNatClampNeg) by decide) (by decide) dX5_goesBy_48 ?_
    refine z_iload (pc := 49) C 0 dX5_goesBy_49 rfl ?_
    refine z_if_eq (pc := 51) C 61 dX5_goesBy_51 (by decide) (fun hc7 => ?_) (fun hc7 => ?_)
    · have hf := bb_t hf hc7
      refine z_aload_n (pc := 61) (i := 0) C 4 dX5_goesBy_61 rfl rfl ?_
      refine z_get (pc := 62) (ci := 5) C (.ref (h 1)) bi_X5 rfl 0 0 (by decide) rfl bf_X5_7 rfl rfl dX5_goesBy_62 ?_
      refine z_iconst (pc := 65) C (3 : Int32) dX5_goesBy_65 (by decide) ?_
      refine z_iald (pc := 66) C 1 0 (3) rfl rfl (show ¬ ((3 : Int32) < 0 ∨ 39 ≤ (3 : Int32).toNatClampNeg) by decide) (by decide) dX5_goesBy_66 ?_
      refine z_iload_n (pc := 67) (i := 2) C 2 dX5_goesBy_67 rfl rfl ?_
      obtain ⟨hn8, hf⟩ := bb_g_some hf
      refine z_irem (pc := 68) C dX5_goesBy_68 hn8 ?_
      refine z_iload_n (pc := 69) (i := 3) C 1 dX5_goesBy_69 rfl rfl ?_
      refine z_iload_n (pc := 70) (i := 2) C 2 dX5_goesBy_70 rfl rfl ?_
      obtain ⟨hn9, hf⟩ := bb_g_some hf
      refine z_irem (pc := 71) C dX5_goesBy_71 hn9 ?_
      obtain ⟨q10, hq10, hf⟩ := bb_b_some hf
      refine z_callSi (pc := 72) (As := [.int ((s0.2.1 0 3) % (s0.2.1 0 1)), .int (q3 % (s0.2.1 0 1))]) (rest := [.int (s0.2.1 0 3), .int ((3 : Int32)), .ref (h 1)]) C (hR.le (by decide)) (c_X5_nearer hq10) (bb_cut_none _) bv_X5_nearer bm_X5_77 rfl rfl (Nat.le_of_ble_eq_true rfl) dX5_goesBy_72 ?_
      refine z_lv [4] rfl ?_
      exact B_X5_goesBy_75 C hR hr h R  hf
    · have hf := bb_e hf hc7
      refine z_iload (pc := 54) C 0 dX5_goesBy_54 rfl ?_
      refine z_iload_n (pc := 56) (i := 2) C 2 dX5_goesBy_56 rfl rfl ?_
      refine z_imul (pc := 57) C dX5_goesBy_57 ?_
      refine z_goto (pc := 58) C 75 dX5_goesBy_58 (by decide) ?_
      refine z_lv [4] rfl ?_
      exact B_X5_goesBy_75 C hR hr h R  hf
theorem c_X5_goesBy {l : Launch} {D : va_G} {cs : Nat → ClassId} (h : Nat → Nat) {s0 : bb_O} {z : (Int32 × bb_O)} (hf : F_X5_goesBy_0 s0 = some z) : bb_M l yX5_goesBy cX5_goesBy 5 (some .boolean) 5 D cs [.ref (h 0)] (some (.int z.1)) (wX5 cs h s0) (wX5 cs h z.2) := bb_mg (by decide) rfl (Nat.le_of_ble_eq_true rfl) rfl (fun X hl hD hcs C hR hr R => by
  subst hl
  subst hD
  subst hcs
  exact B_X5_goesBy_0 C hR hr h R hf)
/-! X5_streets: writes, level 2 -/
noncomputable def F_X5_streets_28 (s0 : bb_O) : Option (Int32 × bb_O) := some ((-1 : Int32), s0)
set_option maxHeartbeats 4000000 in
set_option maxRecDepth 100000 in
theorem B_X5_streets_28 {X : bb_X} (C : bb_C X RX5 cX5_streets 3) (hR : bb_r X 2) (hr : X.meth.sig.returnType = (some .int)) (h : Nat → Nat) {z : (Int32 × bb_O)} (R : bb_R X (some (.int z.1)) (wX5 X.cs h z.2)) {s0 : bb_O} (hf : F_X5_streets_28 s0 = some z) : bb_Z X 3 (wX5 X.cs h s0) 28 [] [] := by
  refine z_iconst (pc := 28) C (-1 : Int32) dX5_streets_28 (by decide) ?_
  obtain rfl := Option.some.inj hf
  exact z_iret (pc := 29) C hr R dX5_streets_29
noncomputable def F_X5_streets_0 (s0 : bb_O) (x1 : Int32) (x2 : Int32) : Option (Int32 × bb_O) := (F_X5_in_0 (x1.toInt64) ((2 : Int64)) ((6 : Int64))).bind (fun q1 => if q1 = 0 then (F_X5_streets_28 s0) else ((F_X5_in_0 (x2.toInt64) ((2 : Int64)) ((6 : Int64))).bind (fun q3 => if q3 = 0 then (F_X5_streets_28 s0) else ((F_X5_fresh_0 s0 x1 x2).bind (fun q5 => (F_X5_cells_0 q5).bind (fun q6 => some (q6, q5)))))))
set_option maxHeartbeats 4000000 in
set_option maxRecDepth 100000 in
theorem B_X5_streets_0 {X : bb_X} (C : bb_C X RX5 cX5_streets 3) (hR : bb_r X 2) (hr : X.meth.sig.returnType = (some .int)) (h : Nat → Nat) {z : (Int32 × bb_O)} (R : bb_R X (some (.int z.1)) (wX5 X.cs h z.2)) {s0 : bb_O} {x1 : Int32} {x2 : Int32} (hf : F_X5_streets_0 s0 x1 x2 = some z) : bb_Z X 3 (wX5 X.cs h s0) 0 [(0, .ref (h 0)), (1, .int x1), (2, .int x2)] [] := by
  refine z_iload_n (pc := 0) (i := 1) C 1 dX5_streets_0 rfl rfl ?_
  refine z_i2l (pc := 1) C dX5_streets_1 ?_
  refine z_ldc2_w (pc := 2) C bk_X5_89 dX5_streets_2 ?_
  refine z_ldc2_w (pc := 5) C bk_X5_91 dX5_streets_5 ?_
  obtain ⟨q1, hq1, hf⟩ := bb_b_some hf
  refine z_callSi (pc := 8) (As := [.long (x1.toInt64), .long ((2 : Int64)), .long ((6 : Int64))]) (rest := []) C (hR.le (by decide)) (c_X5_in hq1) (bb_cut_none _) bv_X5_in bm_X5_49 rfl rfl (Nat.le_of_ble_eq_true rfl) dX5_streets_8 ?_
  refine z_if_eq (pc := 11) C 28 dX5_streets_11 (by decide) (fun hc2 => ?_) (fun hc2 => ?_)
  · have hf := bb_t hf hc2
    refine z_lv [] rfl ?_
    exact B_X5_streets_28 C hR hr h R  hf
  · have hf := bb_e hf hc2
    refine z_iload_n (pc := 14) (i := 2) C 2 dX5_streets_14 rfl rfl ?_
    refine z_i2l (pc := 15) C dX5_streets_15 ?_
    refine z_ldc2_w (pc := 16) C bk_X5_89 dX5_streets_16 ?_
    refine z_ldc2_w (pc := 19) C bk_X5_91 dX5_streets_19 ?_
    obtain ⟨q3, hq3, hf⟩ := bb_b_some hf
    refine z_callSi (pc := 22) (As := [.long (x2.toInt64), .long ((2 : Int64)), .long ((6 : Int64))]) (rest := []) C (hR.le (by decide)) (c_X5_in hq3) (bb_cut_none _) bv_X5_in bm_X5_49 rfl rfl (Nat.le_of_ble_eq_true rfl) dX5_streets_22 ?_
    refine z_if_ne (pc := 25) C 30 dX5_streets_25 (by decide) (fun hc4 => ?_) (fun hc4 => ?_)
    · have hf := bb_e hf hc4
      refine z_aload_n (pc := 30) (i := 0) C 0 dX5_streets_30 rfl rfl ?_
      refine z_iload_n (pc := 31) (i := 1) C 1 dX5_streets_31 rfl rfl ?_
      refine z_iload_n (pc := 32) (i := 2) C 2 dX5_streets_32 rfl rfl ?_
      obtain ⟨q5, hq5, hf⟩ := bb_b_some hf
      refine z_callVv (pc := 33) (ci := 5) (q0 := 0) (As := [.int x1, .int x2]) (rest := []) (ws' := wX5 X.cs h q5) C (hR.le (by decide)) (c_X5_fresh h hq5) (bb_cut_self _ _) bv_X5_fresh bm_X5_41 rfl rfl rfl rfl (Nat.le_of_ble_eq_true rfl) dX5_streets_33 ?_
      refine z_aload_n (pc := 36) (i := 0) C 0 dX5_streets_36 rfl rfl ?_
      obtain ⟨q6, hq6, hf⟩ := bb_b_some hf
      refine z_callVi (pc := 37) (ci := 5) (q0 := 0) (As := []) (rest := []) C (hR.le (by decide)) (c_X5_cells h hq6) (bb_cut_self _ _) bv_X5_cells bm_X5_93 rfl rfl rfl rfl (Nat.le_of_ble_eq_true rfl) dX5_streets_37 ?_
      obtain rfl := Option.some.inj hf
      exact z_iret (pc := 40) C hr R dX5_streets_40
    · have hf := bb_t hf hc4
      refine z_lv [] rfl ?_
      exact B_X5_streets_28 C hR hr h R  hf
theorem c_X5_streets {l : Launch} {D : va_G} {cs : Nat → ClassId} (h : Nat → Nat) {s0 : bb_O} {x1 : Int32} {x2 : Int32} {z : (Int32 × bb_O)} (hf : F_X5_streets_0 s0 x1 x2 = some z) : bb_M l yX5_streets cX5_streets 3 (some .int) 2 D cs [.ref (h 0), .int x1, .int x2] (some (.int z.1)) (wX5 cs h s0) (wX5 cs h z.2) := bb_mg (by decide) rfl (Nat.le_of_ble_eq_true rfl) rfl (fun X hl hD hcs C hR hr R => by
  subst hl
  subst hD
  subst hcs
  exact B_X5_streets_0 C hR hr h R hf)
/-! X5_comes: writes, level 1 -/
noncomputable def F_X5_comes_77 (s0 : bb_O) : Option (bb_O) := some s0
set_option maxHeartbeats 4000000 in
set_option maxRecDepth 100000 in
theorem B_X5_comes_77 {X : bb_X} (C : bb_C X RX5 cX5_comes 6) (hR : bb_r X 1) (hr : X.meth.sig.returnType = none) (h : Nat → Nat) {z : (bb_O)} (R : bb_R X none (wX5 X.cs h z)) {s0 : bb_O} (hf : F_X5_comes_77 s0 = some z) : bb_Z X 6 (wX5 X.cs h s0) 77 [] [] := by
  obtain rfl := Option.some.inj hf
  exact z_vret (pc := 77) C hr R dX5_comes_77
noncomputable def F_X5_comes_72 (s0 : bb_O) : Option (bb_O) := F_X5_comes_77 (bb_sf s0 9 ((0 : Int32)))
set_option maxHeartbeats 4000000 in
set_option maxRecDepth 100000 in
theorem B_X5_comes_72 {X : bb_X} (C : bb_C X RX5 cX5_comes 6) (hR : bb_r X 1) (hr : X.meth.sig.returnType = none) (h : Nat → Nat) {z : (bb_O)} (R : bb_R X none (wX5 X.cs h z)) {s0 : bb_O} (hf : F_X5_comes_72 s0 = some z) : bb_Z X 6 (wX5 X.cs h s0) 72 [(0, .ref (h 0))] [] := by
  refine z_aload_n (pc := 72) (i := 0) C 0 dX5_comes_72 rfl rfl ?_
  refine z_iconst (pc := 73) C (0 : Int32) dX5_comes_73 (by decide) ?_
  refine z_put (pc := 74) (ci := 5) (ty := .int) (ws' := wX5 X.cs h (bb_sf s0 9 ((0 : Int32)))) C bi_X5 tyX5_ok nmX5 rfl 0 9 (by decide) rfl bf_X5_45 rfl rfl rfl rfl rfl (Nat.le_of_ble_eq_true rfl) rfl dX5_comes_74 ?_
  refine z_lv [] rfl ?_
  exact B_X5_comes_77 C hR hr h R  hf
noncomputable def F_X5_comes_62 (s0 : bb_O) : Option (bb_O) := F_X5_comes_72 (bb_sA s0 0 (upd (s0.2.1 0) 2 ((s0.2.1 0 2) + ((1 : Int32)))))
set_option maxHeartbeats 4000000 in
set_option maxRecDepth 100000 in
theorem B_X5_comes_62 {X : bb_X} (C : bb_C X RX5 cX5_comes 6) (hR : bb_r X 1) (hr : X.meth.sig.returnType = none) (h : Nat → Nat) {z : (bb_O)} (R : bb_R X none (wX5 X.cs h z)) {s0 : bb_O} (hf : F_X5_comes_62 s0 = some z) : bb_Z X 6 (wX5 X.cs h s0) 62 [(0, .ref (h 0))] [] := by
  refine z_aload_n (pc := 62) (i := 0) C 0 dX5_comes_62 rfl rfl ?_
  refine z_get (pc := 63) (ci := 5) C (.ref (h 1)) bi_X5 rfl 0 0 (by decide) rfl bf_X5_7 rfl rfl dX5_comes_63 ?_
  refine z_iconst (pc := 66) C (2 : Int32) dX5_comes_66 (by decide) ?_
  refine z_dup2 (pc := 67) C dX5_comes_67 rfl rfl ?_
  refine z_iald (pc := 68) C 1 0 (2) rfl rfl (show ¬ ((2 : Int32) < 0 ∨ 39 ≤ (2 : Int32).toNatClampNeg) by decide) (by decide) dX5_comes_68 ?_
  refine z_iconst (pc := 69) C (1 : Int32) dX5_comes_69 (by decide) ?_
  refine z_iadd (pc := 70) C dX5_comes_70 ?_
  refine z_iast (pc := 71) (ws' := wX5 X.cs h (bb_sA s0 0 (upd (s0.2.1 0) 2 ((s0.2.1 0 2) + ((1 : Int32)))))) C 1 0 (2) rfl rfl (show ¬ ((2 : Int32) < 0 ∨ 39 ≤ (2 : Int32).toNatClampNeg) by decide) (by decide) rfl dX5_comes_71 ?_
  exact B_X5_comes_72 C hR hr h R  hf
noncomputable def F_X5_comes_52 (s0 : bb_O) (x5 : Int32) : Option (bb_O) := bb_g (vp_in (x5 + ((4 : Int32))) 39) (F_X5_comes_62 (bb_sA s0 0 (upd (s0.2.1 0) (x5 + ((4 : Int32))).toNatClampNeg ((0 : Int32)))))
set_option maxHeartbeats 4000000 in
set_option maxRecDepth 100000 in
theorem B_X5_comes_52 {X : bb_X} (C : bb_C X RX5 cX5_comes 6) (hR : bb_r X 1) (hr : X.meth.sig.returnType = none) (h : Nat → Nat) {z : (bb_O)} (R : bb_R X none (wX5 X.cs h z)) {s0 : bb_O} {x5 : Int32} (hf : F_X5_comes_52 s0 x5 = some z) : bb_Z X 6 (wX5 X.cs h s0) 52 [(0, .ref (h 0)), (5, .int x5)] [] := by
  refine z_aload_n (pc := 52) (i := 0) C 0 dX5_comes_52 rfl rfl ?_
  refine z_get (pc := 53) (ci := 5) C (.ref (h 1)) bi_X5 rfl 0 0 (by decide) rfl bf_X5_7 rfl rfl dX5_comes_53 ?_
  refine z_iload (pc := 56) C 1 dX5_comes_56 rfl ?_
  refine z_iconst (pc := 58) C (4 : Int32) dX5_comes_58 (by decide) ?_
  refine z_iadd (pc := 59) C dX5_comes_59 ?_
  refine z_iconst (pc := 60) C (0 : Int32) dX5_comes_60 (by decide) ?_
  obtain ⟨hv1, hf⟩ := bb_g_some hf
  refine z_iast (pc := 61) (ws' := wX5 X.cs h (bb_sA s0 0 (upd (s0.2.1 0) (x5 + ((4 : Int32))).toNatClampNeg ((0 : Int32))))) C 1 0 ((x5 + ((4 : Int32))).toNatClampNeg) rfl rfl hv1 rfl rfl dX5_comes_61 ?_
  refine z_lv [0] rfl ?_
  exact B_X5_comes_62 C hR hr h R  hf
noncomputable def F_X5_comes_41 (s0 : bb_O) (x4 : Int32) (x5 : Int32) : Option (bb_O) := bb_g (vp_in (x5 + ((3 : Int32))) 39) (F_X5_comes_52 (bb_sA s0 0 (upd (s0.2.1 0) (x5 + ((3 : Int32))).toNatClampNeg x4)) x5)
set_option maxHeartbeats 4000000 in
set_option maxRecDepth 100000 in
theorem B_X5_comes_41 {X : bb_X} (C : bb_C X RX5 cX5_comes 6) (hR : bb_r X 1) (hr : X.meth.sig.returnType = none) (h : Nat → Nat) {z : (bb_O)} (R : bb_R X none (wX5 X.cs h z)) {s0 : bb_O} {x4 : Int32} {x5 : Int32} (hf : F_X5_comes_41 s0 x4 x5 = some z) : bb_Z X 6 (wX5 X.cs h s0) 41 [(0, .ref (h 0)), (4, .int x4), (5, .int x5)] [] := by
  refine z_aload_n (pc := 41) (i := 0) C 0 dX5_comes_41 rfl rfl ?_
  refine z_get (pc := 42) (ci := 5) C (.ref (h 1)) bi_X5 rfl 0 0 (by decide) rfl bf_X5_7 rfl rfl dX5_comes_42 ?_
  refine z_iload (pc := 45) C 2 dX5_comes_45 rfl ?_
  refine z_iconst (pc := 47) C (3 : Int32) dX5_comes_47 (by decide) ?_
  refine z_iadd (pc := 48) C dX5_comes_48 ?_
  refine z_iload (pc := 49) C 1 dX5_comes_49 rfl ?_
  obtain ⟨hv1, hf⟩ := bb_g_some hf
  refine z_iast (pc := 51) (ws' := wX5 X.cs h (bb_sA s0 0 (upd (s0.2.1 0) (x5 + ((3 : Int32))).toNatClampNeg x4))) C 1 0 ((x5 + ((3 : Int32))).toNatClampNeg) rfl rfl hv1 rfl rfl dX5_comes_51 ?_
  refine z_lv [0, 2] rfl ?_
  exact B_X5_comes_52 C hR hr h R  hf
noncomputable def F_X5_comes_31 (s0 : bb_O) (x3 : Int32) (x4 : Int32) (x5 : Int32) : Option (bb_O) := bb_g (vp_in (x5 + ((2 : Int32))) 39) (F_X5_comes_41 (bb_sA s0 0 (upd (s0.2.1 0) (x5 + ((2 : Int32))).toNatClampNeg x3)) x4 x5)
set_option maxHeartbeats 4000000 in
set_option maxRecDepth 100000 in
theorem B_X5_comes_31 {X : bb_X} (C : bb_C X RX5 cX5_comes 6) (hR : bb_r X 1) (hr : X.meth.sig.returnType = none) (h : Nat → Nat) {z : (bb_O)} (R : bb_R X none (wX5 X.cs h z)) {s0 : bb_O} {x3 : Int32} {x4 : Int32} {x5 : Int32} (hf : F_X5_comes_31 s0 x3 x4 x5 = some z) : bb_Z X 6 (wX5 X.cs h s0) 31 [(0, .ref (h 0)), (3, .int x3), (4, .int x4), (5, .int x5)] [] := by
  refine z_aload_n (pc := 31) (i := 0) C 0 dX5_comes_31 rfl rfl ?_
  refine z_get (pc := 32) (ci := 5) C (.ref (h 1)) bi_X5 rfl 0 0 (by decide) rfl bf_X5_7 rfl rfl dX5_comes_32 ?_
  refine z_iload (pc := 35) C 3 dX5_comes_35 rfl ?_
  refine z_iconst (pc := 37) C (2 : Int32) dX5_comes_37 (by decide) ?_
  refine z_iadd (pc := 38) C dX5_comes_38 ?_
  refine z_iload_n (pc := 39) (i := 3) C 1 dX5_comes_39 rfl rfl ?_
  obtain ⟨hv1, hf⟩ := bb_g_some hf
  refine z_iast (pc := 40) (ws' := wX5 X.cs h (bb_sA s0 0 (upd (s0.2.1 0) (x5 + ((2 : Int32))).toNatClampNeg x3))) C 1 0 ((x5 + ((2 : Int32))).toNatClampNeg) rfl rfl hv1 rfl rfl dX5_comes_40 ?_
  refine z_lv [0, 2, 3] rfl ?_
  exact B_X5_comes_41 C hR hr h R  hf
noncomputable def F_X5_comes_21 (s0 : bb_O) (x2 : Int32) (x3 : Int32) (x4 : Int32) (x5 : Int32) : Option (bb_O) := bb_g (vp_in (x5 + ((1 : Int32))) 39) (F_X5_comes_31 (bb_sA s0 0 (upd (s0.2.1 0) (x5 + ((1 : Int32))).toNatClampNeg x2)) x3 x4 x5)
set_option maxHeartbeats 4000000 in
set_option maxRecDepth 100000 in
theorem B_X5_comes_21 {X : bb_X} (C : bb_C X RX5 cX5_comes 6) (hR : bb_r X 1) (hr : X.meth.sig.returnType = none) (h : Nat → Nat) {z : (bb_O)} (R : bb_R X none (wX5 X.cs h z)) {s0 : bb_O} {x2 : Int32} {x3 : Int32} {x4 : Int32} {x5 : Int32} (hf : F_X5_comes_21 s0 x2 x3 x4 x5 = some z) : bb_Z X 6 (wX5 X.cs h s0) 21 [(0, .ref (h 0)), (2, .int x2), (3, .int x3), (4, .int x4), (5, .int x5)] [] := by
  refine z_aload_n (pc := 21) (i := 0) C 0 dX5_comes_21 rfl rfl ?_
  refine z_get (pc := 22) (ci := 5) C (.ref (h 1)) bi_X5 rfl 0 0 (by decide) rfl bf_X5_7 rfl rfl dX5_comes_22 ?_
  refine z_iload (pc := 25) C 4 dX5_comes_25 rfl ?_
  refine z_iconst (pc := 27) C (1 : Int32) dX5_comes_27 (by decide) ?_
  refine z_iadd (pc := 28) C dX5_comes_28 ?_
  refine z_iload_n (pc := 29) (i := 2) C 1 dX5_comes_29 rfl rfl ?_
  obtain ⟨hv1, hf⟩ := bb_g_some hf
  refine z_iast (pc := 30) (ws' := wX5 X.cs h (bb_sA s0 0 (upd (s0.2.1 0) (x5 + ((1 : Int32))).toNatClampNeg x2))) C 1 0 ((x5 + ((1 : Int32))).toNatClampNeg) rfl rfl hv1 rfl rfl dX5_comes_30 ?_
  refine z_lv [0, 2, 3, 4] rfl ?_
  exact B_X5_comes_31 C hR hr h R  hf
noncomputable def F_X5_comes_0 (s0 : bb_O) (x1 : Int32) (x2 : Int32) (x3 : Int32) (x4 : Int32) : Option (bb_O) := bb_g (vp_in (((9 : Int32)) + (((5 : Int32)) * (s0.2.1 0 2))) 39) (F_X5_comes_21 (bb_sA s0 0 (upd (s0.2.1 0) (((9 : Int32)) + (((5 : Int32)) * (s0.2.1 0 2))).toNatClampNeg x1)) x2 x3 x4 (((9 : Int32)) + (((5 : Int32)) * (s0.2.1 0 2))))
set_option maxHeartbeats 4000000 in
set_option maxRecDepth 100000 in
theorem B_X5_comes_0 {X : bb_X} (C : bb_C X RX5 cX5_comes 6) (hR : bb_r X 1) (hr : X.meth.sig.returnType = none) (h : Nat → Nat) {z : (bb_O)} (R : bb_R X none (wX5 X.cs h z)) {s0 : bb_O} {x1 : Int32} {x2 : Int32} {x3 : Int32} {x4 : Int32} (hf : F_X5_comes_0 s0 x1 x2 x3 x4 = some z) : bb_Z X 6 (wX5 X.cs h s0) 0 [(0, .ref (h 0)), (1, .int x1), (2, .int x2), (3, .int x3), (4, .int x4)] [] := by
  refine z_bipush (pc := 0) C (9 : Int32) dX5_comes_0 (by decide) ?_
  refine z_iconst (pc := 2) C (5 : Int32) dX5_comes_2 (by decide) ?_
  refine z_aload_n (pc := 3) (i := 0) C 0 dX5_comes_3 rfl rfl ?_
  refine z_get (pc := 4) (ci := 5) C (.ref (h 1)) bi_X5 rfl 0 0 (by decide) rfl bf_X5_7 rfl rfl dX5_comes_4 ?_
  refine z_iconst (pc := 7) C (2 : Int32) dX5_comes_7 (by decide) ?_
  refine z_iald (pc := 8) C 1 0 (2) rfl rfl (show ¬ ((2 : Int32) < 0 ∨ 39 ≤ (2 : Int32).toNatClampNeg) by decide) (by decide) dX5_comes_8 ?_
  refine z_imul (pc := 9) C dX5_comes_9 ?_
  refine z_iadd (pc := 10) C dX5_comes_10 ?_
  refine z_istore (pc := 11) (lv' := [(5, .int (((9 : Int32)) + (((5 : Int32)) * (s0.2.1 0 2)))), (0, .ref (h 0)), (1, .int x1), (2, .int x2), (3, .int x3), (4, .int x4)]) C dX5_comes_11 (by decide) rfl ?_
  refine z_aload_n (pc := 13) (i := 0) C 1 dX5_comes_13 rfl rfl ?_
  refine z_get (pc := 14) (ci := 5) C (.ref (h 1)) bi_X5 rfl 0 0 (by decide) rfl bf_X5_7 rfl rfl dX5_comes_14 ?_
  refine z_iload (pc := 17) C 0 dX5_comes_17 rfl ?_
  refine z_iload_n (pc := 19) (i := 1) C 2 dX5_comes_19 rfl rfl ?_
  obtain ⟨hv1, hf⟩ := bb_g_some hf
  refine z_iast (pc := 20) (ws' := wX5 X.cs h (bb_sA s0 0 (upd (s0.2.1 0) (((9 : Int32)) + (((5 : Int32)) * (s0.2.1 0 2))).toNatClampNeg x1))) C 1 0 ((((9 : Int32)) + (((5 : Int32)) * (s0.2.1 0 2))).toNatClampNeg) rfl rfl hv1 rfl rfl dX5_comes_20 ?_
  refine z_lv [1, 3, 4, 5, 0] rfl ?_
  exact B_X5_comes_21 C hR hr h R  hf
theorem c_X5_comes {l : Launch} {D : va_G} {cs : Nat → ClassId} (h : Nat → Nat) {s0 : bb_O} {x1 : Int32} {x2 : Int32} {x3 : Int32} {x4 : Int32} {z : (bb_O)} (hf : F_X5_comes_0 s0 x1 x2 x3 x4 = some z) : bb_M l yX5_comes cX5_comes 6 none 1 D cs [.ref (h 0), .int x1, .int x2, .int x3, .int x4] none (wX5 cs h s0) (wX5 cs h z) := bb_mg (by decide) rfl (Nat.le_of_ble_eq_true rfl) rfl (fun X hl hD hcs C hR hr R => by
  subst hl
  subst hD
  subst hcs
  exact B_X5_comes_0 C hR hr h R hf)
/-! X5_person: writes, level 2 -/
noncomputable def F_X5_person_53 (s0 : bb_O) : Option (Int32 × bb_O) := some ((-1 : Int32), s0)
set_option maxHeartbeats 4000000 in
set_option maxRecDepth 100000 in
theorem B_X5_person_53 {X : bb_X} (C : bb_C X RX5 cX5_person 5) (hR : bb_r X 2) (hr : X.meth.sig.returnType = (some .int)) (h : Nat → Nat) {z : (Int32 × bb_O)} (R : bb_R X (some (.int z.1)) (wX5 X.cs h z.2)) {s0 : bb_O} (hf : F_X5_person_53 s0 = some z) : bb_Z X 5 (wX5 X.cs h s0) 53 [] [] := by
  refine z_iconst (pc := 53) C (-1 : Int32) dX5_person_53 (by decide) ?_
  obtain rfl := Option.some.inj hf
  exact z_iret (pc := 54) C hr R dX5_person_54
noncomputable def F_X5_person_78 (s0 : bb_O) : Option (Int32 × bb_O) := some ((s0.2.1 0 2) - ((1 : Int32)), s0)
set_option maxHeartbeats 4000000 in
set_option maxRecDepth 100000 in
theorem B_X5_person_78 {X : bb_X} (C : bb_C X RX5 cX5_person 5) (hR : bb_r X 2) (hr : X.meth.sig.returnType = (some .int)) (h : Nat → Nat) {z : (Int32 × bb_O)} (R : bb_R X (some (.int z.1)) (wX5 X.cs h z.2)) {s0 : bb_O} (hf : F_X5_person_78 s0 = some z) : bb_Z X 5 (wX5 X.cs h s0) 78 [(0, .ref (h 0))] [] := by
  refine z_aload_n (pc := 78) (i := 0) C 0 dX5_person_78 rfl rfl ?_
  refine z_get (pc := 79) (ci := 5) C (.ref (h 1)) bi_X5 rfl 0 0 (by decide) rfl bf_X5_7 rfl rfl dX5_person_79 ?_
  refine z_iconst (pc := 82) C (2 : Int32) dX5_person_82 (by decide) ?_
  refine z_iald (pc := 83) C 1 0 (2) rfl rfl (show ¬ ((2 : Int32) < 0 ∨ 39 ≤ (2 : Int32).toNatClampNeg) by decide) (by decide) dX5_person_83 ?_
  refine z_iconst (pc := 84) C (1 : Int32) dX5_person_84 (by decide) ?_
  refine z_isub (pc := 85) C dX5_person_85 ?_
  obtain rfl := Option.some.inj hf
  exact z_iret (pc := 86) C hr R dX5_person_86
noncomputable def F_X5_person_0 (s0 : bb_O) (x1 : Int32) (x2 : Int32) (x3 : Int32) (x4 : Int32) : Option (Int32 × bb_O) := (F_X5_in_0 (x1.toInt64) ((0 : Int64)) ((4 : Int64))).bind (fun q1 => if q1 = 0 then (F_X5_person_53 s0) else ((F_X5_cells_0 s0).bind (fun q3 => (F_X5_in_0 (x2.toInt64) ((0 : Int64)) ((q3 - ((1 : Int32))).toInt64)).bind (fun q4 => if q4 = 0 then (F_X5_person_53 s0) else ((F_X5_in_0 (x3.toInt64) ((0 : Int64)) ((9 : Int64))).bind (fun q6 => if q6 = 0 then (F_X5_person_53 s0) else ((F_X5_in_0 (x4.toInt64) ((0 : Int64)) ((63 : Int64))).bind (fun q8 => if q8 = 0 then (F_X5_person_53 s0) else (if (s0.2.1 0 2) = ((6 : Int32)) then (some ((-3 : Int32), s0)) else ((F_X5_comes_0 s0 x1 x2 x3 x4).bind (fun q11 => F_X5_person_78 q11)))))))))))
set_option maxHeartbeats 4000000 in
set_option maxRecDepth 100000 in
theorem B_X5_person_0 {X : bb_X} (C : bb_C X RX5 cX5_person 5) (hR : bb_r X 2) (hr : X.meth.sig.returnType = (some .int)) (h : Nat → Nat) {z : (Int32 × bb_O)} (R : bb_R X (some (.int z.1)) (wX5 X.cs h z.2)) {s0 : bb_O} {x1 : Int32} {x2 : Int32} {x3 : Int32} {x4 : Int32} (hf : F_X5_person_0 s0 x1 x2 x3 x4 = some z) : bb_Z X 5 (wX5 X.cs h s0) 0 [(0, .ref (h 0)), (1, .int x1), (2, .int x2), (3, .int x3), (4, .int x4)] [] := by
  refine z_iload_n (pc := 0) (i := 1) C 1 dX5_person_0 rfl rfl ?_
  refine z_i2l (pc := 1) C dX5_person_1 ?_
  refine z_lconst (pc := 2) C (0 : Int64) dX5_person_2 (by decide) ?_
  refine z_ldc2_w (pc := 3) C bk_X5_97 dX5_person_3 ?_
  obtain ⟨q1, hq1, hf⟩ := bb_b_some hf
  refine z_callSi (pc := 6) (As := [.long (x1.toInt64), .long ((0 : Int64)), .long ((4 : Int64))]) (rest := []) C (hR.le (by decide)) (c_X5_in hq1) (bb_cut_none _) bv_X5_in bm_X5_49 rfl rfl (Nat.le_of_ble_eq_true rfl) dX5_person_6 ?_
  refine z_if_eq (pc := 9) C 53 dX5_person_9 (by decide) (fun hc2 => ?_) (fun hc2 => ?_)
  · have hf := bb_t hf hc2
    refine z_lv [] rfl ?_
    exact B_X5_person_53 C hR hr h R  hf
  · have hf := bb_e hf hc2
    refine z_iload_n (pc := 12) (i := 2) C 2 dX5_person_12 rfl rfl ?_
    refine z_i2l (pc := 13) C dX5_person_13 ?_
    refine z_lconst (pc := 14) C (0 : Int64) dX5_person_14 (by decide) ?_
    refine z_aload_n (pc := 15) (i := 0) C 0 dX5_person_15 rfl rfl ?_
    obtain ⟨q3, hq3, hf⟩ := bb_b_some hf
    refine z_callVi (pc := 16) (ci := 5) (q0 := 0) (As := []) (rest := [.long ((0 : Int64)), .long (x2.toInt64)]) C (hR.le (by decide)) (c_X5_cells h hq3) (bb_cut_self _ _) bv_X5_cells bm_X5_93 rfl rfl rfl rfl (Nat.le_of_ble_eq_true rfl) dX5_person_16 ?_
    refine z_iconst (pc := 19) C (1 : Int32) dX5_person_19 (by decide) ?_
    refine z_isub (pc := 20) C dX5_person_20 ?_
    refine z_i2l (pc := 21) C dX5_person_21 ?_
    obtain ⟨q4, hq4, hf⟩ := bb_b_some hf
    refine z_callSi (pc := 22) (As := [.long (x2.toInt64), .long ((0 : Int64)), .long ((q3 - ((1 : Int32))).toInt64)]) (rest := []) C (hR.le (by decide)) (c_X5_in hq4) (bb_cut_none _) bv_X5_in bm_X5_49 rfl rfl (Nat.le_of_ble_eq_true rfl) dX5_person_22 ?_
    refine z_if_eq (pc := 25) C 53 dX5_person_25 (by decide) (fun hc5 => ?_) (fun hc5 => ?_)
    · have hf := bb_t hf hc5
      refine z_lv [] rfl ?_
      exact B_X5_person_53 C hR hr h R  hf
    · have hf := bb_e hf hc5
      refine z_iload_n (pc := 28) (i := 3) C 3 dX5_person_28 rfl rfl ?_
      refine z_i2l (pc := 29) C dX5_person_29 ?_
      refine z_lconst (pc := 30) C (0 : Int64) dX5_person_30 (by decide) ?_
      refine z_ldc2_w (pc := 31) C bk_X5_99 dX5_person_31 ?_
      obtain ⟨q6, hq6, hf⟩ := bb_b_some hf
      refine z_callSi (pc := 34) (As := [.long (x3.toInt64), .long ((0 : Int64)), .long ((9 : Int64))]) (rest := []) C (hR.le (by decide)) (c_X5_in hq6) (bb_cut_none _) bv_X5_in bm_X5_49 rfl rfl (Nat.le_of_ble_eq_true rfl) dX5_person_34 ?_
      refine z_if_eq (pc := 37) C 53 dX5_person_37 (by decide) (fun hc7 => ?_) (fun hc7 => ?_)
      · have hf := bb_t hf hc7
        refine z_lv [] rfl ?_
        exact B_X5_person_53 C hR hr h R  hf
      · have hf := bb_e hf hc7
        refine z_iload (pc := 40) C 4 dX5_person_40 rfl ?_
        refine z_i2l (pc := 42) C dX5_person_42 ?_
        refine z_lconst (pc := 43) C (0 : Int64) dX5_person_43 (by decide) ?_
        refine z_ldc2_w (pc := 44) C bk_X5_101 dX5_person_44 ?_
        obtain ⟨q8, hq8, hf⟩ := bb_b_some hf
        refine z_callSi (pc := 47) (As := [.long (x4.toInt64), .long ((0 : Int64)), .long ((63 : Int64))]) (rest := []) C (hR.le (by decide)) (c_X5_in hq8) (bb_cut_none _) bv_X5_in bm_X5_49 rfl rfl (Nat.le_of_ble_eq_true rfl) dX5_person_47 ?_
        refine z_if_ne (pc := 50) C 55 dX5_person_50 (by decide) (fun hc9 => ?_) (fun hc9 => ?_)
        · have hf := bb_e hf hc9
          refine z_aload_n (pc := 55) (i := 0) C 0 dX5_person_55 rfl rfl ?_
          refine z_get (pc := 56) (ci := 5) C (.ref (h 1)) bi_X5 rfl 0 0 (by decide) rfl bf_X5_7 rfl rfl dX5_person_56 ?_
          refine z_iconst (pc := 59) C (2 : Int32) dX5_person_59 (by decide) ?_
          refine z_iald (pc := 60) C 1 0 (2) rfl rfl (show ¬ ((2 : Int32) < 0 ∨ 39 ≤ (2 : Int32).toNatClampNeg) by decide) (by decide) dX5_person_60 ?_
          refine z_bipush (pc := 61) C (6 : Int32) dX5_person_61 (by decide) ?_
          refine z_icmp_ne (pc := 63) C 69 dX5_person_63 (by decide) (fun hc10 => ?_) (fun hc10 => ?_)
          · have hf := bb_e hf hc10
            refine z_aload_n (pc := 69) (i := 0) C 0 dX5_person_69 rfl rfl ?_
            refine z_iload_n (pc := 70) (i := 1) C 1 dX5_person_70 rfl rfl ?_
            refine z_iload_n (pc := 71) (i := 2) C 2 dX5_person_71 rfl rfl ?_
            refine z_iload_n (pc := 72) (i := 3) C 3 dX5_person_72 rfl rfl ?_
            refine z_iload (pc := 73) C 4 dX5_person_73 rfl ?_
            obtain ⟨q11, hq11, hf⟩ := bb_b_some hf
            refine z_callVv (pc := 75) (ci := 5) (q0 := 0) (As := [.int x1, .int x2, .int x3, .int x4]) (rest := []) (ws' := wX5 X.cs h q11) C (hR.le (by decide)) (c_X5_comes h hq11) (bb_cut_self _ _) bv_X5_comes bm_X5_103 rfl rfl rfl rfl (Nat.le_of_ble_eq_true rfl) dX5_person_75 ?_
            refine z_lv [0] rfl ?_
            exact B_X5_person_78 C hR hr h R  hf
          · have hf := bb_t hf hc10
            refine z_bipush (pc := 66) C (-3 : Int32) dX5_person_66 (by decide) ?_
            obtain rfl := Option.some.inj hf
            exact z_iret (pc := 68) C hr R dX5_person_68
        · have hf := bb_t hf hc9
          refine z_lv [] rfl ?_
          exact B_X5_person_53 C hR hr h R  hf
theorem c_X5_person {l : Launch} {D : va_G} {cs : Nat → ClassId} (h : Nat → Nat) {s0 : bb_O} {x1 : Int32} {x2 : Int32} {x3 : Int32} {x4 : Int32} {z : (Int32 × bb_O)} (hf : F_X5_person_0 s0 x1 x2 x3 x4 = some z) : bb_M l yX5_person cX5_person 5 (some .int) 2 D cs [.ref (h 0), .int x1, .int x2, .int x3, .int x4] (some (.int z.1)) (wX5 cs h s0) (wX5 cs h z.2) := bb_mg (by decide) rfl (Nat.le_of_ble_eq_true rfl) rfl (fun X hl hD hcs C hR hr R => by
  subst hl
  subst hD
  subst hcs
  exact B_X5_person_0 C hR hr h R hf)
/-! X5_of: reads, level 4 -/
noncomputable def F_X5_of_20 (s0 : bb_O) : Option Int32 := some ((-1 : Int32))
set_option maxHeartbeats 4000000 in
set_option maxRecDepth 100000 in
theorem B_X5_of_20 {X : bb_X} (C : bb_C X RX5 cX5_of 3) (hR : bb_r X 4) (hr : X.meth.sig.returnType = (some .int)) (h : Nat → Nat) {z : Int32} {s0 : bb_O} (R : bb_R X (some (.int z)) (wX5 X.cs h s0))  (hf : F_X5_of_20 s0 = some z) : bb_Z X 3 (wX5 X.cs h s0) 20 [] [] := by
  refine z_iconst (pc := 20) C (-1 : Int32) dX5_of_20 (by decide) ?_
  obtain rfl := Option.some.inj hf
  exact z_iret (pc := 21) C hr R dX5_of_21
noncomputable def F_X5_of_65 (s0 : bb_O) (y0 : Int32) : Option Int32 := some y0
set_option maxHeartbeats 4000000 in
set_option maxRecDepth 100000 in
theorem B_X5_of_65 {X : bb_X} (C : bb_C X RX5 cX5_of 3) (hR : bb_r X 4) (hr : X.meth.sig.returnType = (some .int)) (h : Nat → Nat) {z : Int32} {s0 : bb_O} (R : bb_R X (some (.int z)) (wX5 X.cs h s0)) {y0 : Int32} (hf : F_X5_of_65 s0 y0 = some z) : bb_Z X 3 (wX5 X.cs h s0) 65 [] [.int y0] := by
  obtain rfl := Option.some.inj hf
  exact z_iret (pc := 65) C hr R dX5_of_65
noncomputable def F_X5_of_0 (s0 : bb_O) (x1 : Int32) (x2 : Int32) : Option Int32 := (F_X5_isPerson_0 s0 x1).bind (fun q1 => if q1 = 0 then (F_X5_of_20 s0) else ((F_X5_in_0 (x2.toInt64) ((0 : Int64)) ((8 : Int64))).bind (fun q3 => if q3 = 0 then (F_X5_of_20 s0) else (if x2 = 5 then ((F_X5_isFree_0 s0 x1).bind (fun q6 => if q6 = 0 then (F_X5_of_65 s0 ((1 : Int32))) else (F_X5_of_65 s0 ((0 : Int32))))) else (if x2 = 6 then ((F_X5_far_0 s0 x1).bind (fun q9 => some q9)) else (if x2 = 7 then ((F_X5_loud_0 s0 x1).bind (fun q11 => some q11)) else (if x2 = 8 then ((F_X5_told_0 s0 x1 ((4 : Int32))).bind (fun q13 => (F_X5_named_0 s0 x1 q13).bind (fun q14 => some q14))) else ((F_X5_told_0 s0 x1 x2).bind (fun q15 => some q15)))))))))
set_option maxHeartbeats 4000000 in
set_option maxRecDepth 100000 in
theorem B_X5_of_0 {X : bb_X} (C : bb_C X RX5 cX5_of 3) (hR : bb_r X 4) (hr : X.meth.sig.returnType = (some .int)) (h : Nat → Nat) {z : Int32} {s0 : bb_O} (R : bb_R X (some (.int z)) (wX5 X.cs h s0)) {x1 : Int32} {x2 : Int32} (hf : F_X5_of_0 s0 x1 x2 = some z) : bb_Z X 3 (wX5 X.cs h s0) 0 [(0, .ref (h 0)), (1, .int x1), (2, .int x2)] [] := by
  refine z_aload_n (pc := 0) (i := 0) C 0 dX5_of_0 rfl rfl ?_
  refine z_iload_n (pc := 1) (i := 1) C 1 dX5_of_1 rfl rfl ?_
  obtain ⟨q1, hq1, hf⟩ := bb_b_some hf
  refine z_callVi (pc := 2) (ci := 5) (q0 := 0) (As := [.int x1]) (rest := []) C (hR.le (by decide)) (c_X5_isPerson h hq1) (bb_cut_self _ _) bv_X5_isPerson bm_X5_107 rfl rfl rfl rfl (Nat.le_of_ble_eq_true rfl) dX5_of_2 ?_
  refine z_if_eq (pc := 5) C 20 dX5_of_5 (by decide) (fun hc2 => ?_) (fun hc2 => ?_)
  · have hf := bb_t hf hc2
    refine z_lv [] rfl ?_
    exact B_X5_of_20 C hR hr h R  hf
  · have hf := bb_e hf hc2
    refine z_iload_n (pc := 8) (i := 2) C 2 dX5_of_8 rfl rfl ?_
    refine z_i2l (pc := 9) C dX5_of_9 ?_
    refine z_lconst (pc := 10) C (0 : Int64) dX5_of_10 (by decide) ?_
    refine z_ldc2_w (pc := 11) C bk_X5_110 dX5_of_11 ?_
    obtain ⟨q3, hq3, hf⟩ := bb_b_some hf
    refine z_callSi (pc := 14) (As := [.long (x2.toInt64), .long ((0 : Int64)), .long ((8 : Int64))]) (rest := []) C (hR.le (by decide)) (c_X5_in hq3) (bb_cut_none _) bv_X5_in bm_X5_49 rfl rfl (Nat.le_of_ble_eq_true rfl) dX5_of_14 ?_
    refine z_if_ne (pc := 17) C 22 dX5_of_17 (by decide) (fun hc4 => ?_) (fun hc4 => ?_)
    · have hf := bb_e hf hc4
      refine z_iload_n (pc := 22) (i := 2) C 2 dX5_of_22 rfl rfl ?_
      by_cases hc5 : x2 = 5
      · have hf := bb_t hf hc5
        refine z_tabIn (pc := 23) C 52 (5 : Int32) dX5_of_23 hc5 (by decide) (by decide) rfl (by decide) ?_
        refine z_aload_n (pc := 52) (i := 0) C 0 dX5_of_52 rfl rfl ?_
        refine z_iload_n (pc := 53) (i := 1) C 1 dX5_of_53 rfl rfl ?_
        obtain ⟨q6, hq6, hf⟩ := bb_b_some hf
        refine z_callVi (pc := 54) (ci := 5) (q0 := 0) (As := [.int x1]) (rest := []) C (hR.le (by decide)) (c_X5_isFree h hq6) (bb_cut_self _ _) bv_X5_isFree bm_X5_67 rfl rfl rfl rfl (Nat.le_of_ble_eq_true rfl) dX5_of_54 ?_
        refine z_if_eq (pc := 57) C 64 dX5_of_57 (by decide) (fun hc7 => ?_) (fun hc7 => ?_)
        · have hf := bb_t hf hc7
          refine z_iconst (pc := 64) C (1 : Int32) dX5_of_64 (by decide) ?_
          refine z_lv [] rfl ?_
          exact B_X5_of_65 C hR hr h R  hf
        · have hf := bb_e hf hc7
          refine z_iconst (pc := 60) C (0 : Int32) dX5_of_60 (by decide) ?_
          refine z_goto (pc := 61) C 65 dX5_of_61 (by decide) ?_
          refine z_lv [] rfl ?_
          exact B_X5_of_65 C hR hr h R  hf
      · have hf := bb_e hf hc5
        by_cases hc8 : x2 = 6
        · have hf := bb_t hf hc8
          refine z_tabIn (pc := 23) C 66 (6 : Int32) dX5_of_23 hc8 (by decide) (by decide) rfl (by decide) ?_
          refine z_aload_n (pc := 66) (i := 0) C 0 dX5_of_66 rfl rfl ?_
          refine z_iload_n (pc := 67) (i := 1) C 1 dX5_of_67 rfl rfl ?_
          obtain ⟨q9, hq9, hf⟩ := bb_b_some hf
          refine z_callVi (pc := 68) (ci := 5) (q0 := 0) (As := [.int x1]) (rest := []) C (hR.le (by decide)) (c_X5_far h hq9) (bb_cut_self _ _) bv_X5_far bm_X5_60 rfl rfl rfl rfl (Nat.le_of_ble_eq_true rfl) dX5_of_68 ?_
          obtain rfl := Option.some.inj hf
          exact z_iret (pc := 71) C hr R dX5_of_71
        · have hf := bb_e hf hc8
          by_cases hc10 : x2 = 7
          · have hf := bb_t hf hc10
            refine z_tabIn (pc := 23) C 72 (7 : Int32) dX5_of_23 hc10 (by decide) (by decide) rfl (by decide) ?_
            refine z_aload_n (pc := 72) (i := 0) C 0 dX5_of_72 rfl rfl ?_
            refine z_iload_n (pc := 73) (i := 1) C 1 dX5_of_73 rfl rfl ?_
            obtain ⟨q11, hq11, hf⟩ := bb_b_some hf
            refine z_callVi (pc := 74) (ci := 5) (q0 := 0) (As := [.int x1]) (rest := []) C (hR.le (by decide)) (c_X5_loud h hq11) (bb_cut_self _ _) bv_X5_loud bm_X5_71 rfl rfl rfl rfl (Nat.le_of_ble_eq_true rfl) dX5_of_74 ?_
            obtain rfl := Option.some.inj hf
            exact z_iret (pc := 77) C hr R dX5_of_77
          · have hf := bb_e hf hc10
            by_cases hc12 : x2 = 8
            · have hf := bb_t hf hc12
              refine z_tabIn (pc := 23) C 78 (8 : Int32) dX5_of_23 hc12 (by decide) (by decide) rfl (by decide) ?_
              refine z_aload_n (pc := 78) (i := 0) C 0 dX5_of_78 rfl rfl ?_
              refine z_iload_n (pc := 79) (i := 1) C 1 dX5_of_79 rfl rfl ?_
              refine z_aload_n (pc := 80) (i := 0) C 0 dX5_of_80 rfl rfl ?_
              refine z_iload_n (pc := 81) (i := 1) C 1 dX5_of_81 rfl rfl ?_
              refine z_iconst (pc := 82) C (4 : Int32) dX5_of_82 (by decide) ?_
              obtain ⟨q13, hq13, hf⟩ := bb_b_some hf
              refine z_callVi (pc := 83) (ci := 5) (q0 := 0) (As := [.int x1, .int ((4 : Int32))]) (rest := [.int x1, .ref (h 0)]) C (hR.le (by decide)) (c_X5_told h hq13) (bb_cut_self _ _) bv_X5_told bm_X5_53 rfl rfl rfl rfl (Nat.le_of_ble_eq_true rfl) dX5_of_83 ?_
              obtain ⟨q14, hq14, hf⟩ := bb_b_some hf
              refine z_callVi (pc := 86) (ci := 5) (q0 := 0) (As := [.int x1, .int q13]) (rest := []) C (hR.le (by decide)) (c_X5_named h hq14) (bb_cut_self _ _) bv_X5_named bm_X5_83 rfl rfl rfl rfl (Nat.le_of_ble_eq_true rfl) dX5_of_86 ?_
              obtain rfl := Option.some.inj hf
              exact z_iret (pc := 89) C hr R dX5_of_89
            · have hf := bb_e hf hc12
              refine z_tabOut (pc := 23) C 90 dX5_of_23 (by have a5 := lv_neT hc5 (show (5 : Int32).toInt = 5 by decide); have a6 := lv_neT hc8 (show (6 : Int32).toInt = 6 by decide); have a7 := lv_neT hc10 (show (7 : Int32).toInt = 7 by decide); have a8 := lv_neT hc12 (show (8 : Int32).toInt = 8 by decide); omega) (by decide) ?_
              refine z_aload_n (pc := 90) (i := 0) C 0 dX5_of_90 rfl rfl ?_
              refine z_iload_n (pc := 91) (i := 1) C 1 dX5_of_91 rfl rfl ?_
              refine z_iload_n (pc := 92) (i := 2) C 2 dX5_of_92 rfl rfl ?_
              obtain ⟨q15, hq15, hf⟩ := bb_b_some hf
              refine z_callVi (pc := 93) (ci := 5) (q0 := 0) (As := [.int x1, .int x2]) (rest := []) C (hR.le (by decide)) (c_X5_told h hq15) (bb_cut_self _ _) bv_X5_told bm_X5_53 rfl rfl rfl rfl (Nat.le_of_ble_eq_true rfl) dX5_of_93 ?_
              obtain rfl := Option.some.inj hf
              exact z_iret (pc := 96) C hr R dX5_of_96
    · have hf := bb_t hf hc4
      refine z_lv [] rfl ?_
      exact B_X5_of_20 C hR hr h R  hf
theorem c_X5_of {l : Launch} {D : va_G} {cs : Nat → ClassId} (h : Nat → Nat) {s0 : bb_O} {x1 : Int32} {x2 : Int32} {z : Int32} (hf : F_X5_of_0 s0 x1 x2 = some z) : bb_M l yX5_of cX5_of 3 (some .int) 4 D cs [.ref (h 0), .int x1, .int x2] (some (.int z)) (wX5 cs h s0) (wX5 cs h s0) := bb_mg (by decide) rfl (Nat.le_of_ble_eq_true rfl) rfl (fun X hl hD hcs C hR hr R => by
  subst hl
  subst hD
  subst hcs
  exact B_X5_of_0 C hR hr h R hf)
/-! X5_rule: writes, level 3 -/
noncomputable def F_X5_rule_40 (s0 : bb_O) : Option (Int32 × bb_O) := some ((-1 : Int32), s0)
set_option maxHeartbeats 4000000 in
set_option maxRecDepth 100000 in
theorem B_X5_rule_40 {X : bb_X} (C : bb_C X RX5 cX5_rule 6) (hR : bb_r X 3) (hr : X.meth.sig.returnType = (some .int)) (h : Nat → Nat) {z : (Int32 × bb_O)} (R : bb_R X (some (.int z.1)) (wX5 X.cs h z.2)) {s0 : bb_O} (hf : F_X5_rule_40 s0 = some z) : bb_Z X 6 (wX5 X.cs h s0) 40 [] [] := by
  refine z_iconst (pc := 40) C (-1 : Int32) dX5_rule_40 (by decide) ?_
  obtain rfl := Option.some.inj hf
  exact z_iret (pc := 41) C hr R dX5_rule_41
noncomputable def F_X5_rule_77 (s0 : bb_O) (x5 : Int32) : Option (Int32 × bb_O) := some (x5, s0)
set_option maxHeartbeats 4000000 in
set_option maxRecDepth 100000 in
theorem B_X5_rule_77 {X : bb_X} (C : bb_C X RX5 cX5_rule 6) (hR : bb_r X 3) (hr : X.meth.sig.returnType = (some .int)) (h : Nat → Nat) {z : (Int32 × bb_O)} (R : bb_R X (some (.int z.1)) (wX5 X.cs h z.2)) {s0 : bb_O} {x5 : Int32} (hf : F_X5_rule_77 s0 x5 = some z) : bb_Z X 6 (wX5 X.cs h s0) 77 [(5, .int x5)] [] := by
  refine z_iload (pc := 77) C 0 dX5_rule_77 rfl ?_
  obtain rfl := Option.some.inj hf
  exact z_iret (pc := 79) C hr R dX5_rule_79
noncomputable def F_X5_rule_57 (s0 : bb_O) (x3 : Int32) (y0 : Int32) (y1 : Int32) : Option (Int32 × bb_O) := bb_g (vp_in (y1 + y0) 39) (bb_g (vp_in (y1 + y0) 39) (F_X5_rule_77 (bb_sA s0 0 (upd (s0.2.1 0) (y1 + y0).toNatClampNeg x3)) (s0.2.1 0 (y1 + y0).toNatClampNeg)))
set_option maxHeartbeats 4000000 in
set_option maxRecDepth 100000 in
theorem B_X5_rule_57 {X : bb_X} (C : bb_C X RX5 cX5_rule 6) (hR : bb_r X 3) (hr : X.meth.sig.returnType = (some .int)) (h : Nat → Nat) {z : (Int32 × bb_O)} (R : bb_R X (some (.int z.1)) (wX5 X.cs h z.2)) {s0 : bb_O} {x3 : Int32} {y0 : Int32} {y1 : Int32} (hf : F_X5_rule_57 s0 x3 y0 y1 = some z) : bb_Z X 6 (wX5 X.cs h s0) 57 [(0, .ref (h 0)), (3, .int x3)] [.int y0, .int y1] := by
  refine z_iadd (pc := 57) C dX5_rule_57 ?_
  refine z_istore (pc := 58) (lv' := [(4, .int (y1 + y0)), (0, .ref (h 0)), (3, .int x3)]) C dX5_rule_58 (by decide) rfl ?_
  refine z_aload_n (pc := 60) (i := 0) C 1 dX5_rule_60 rfl rfl ?_
  refine z_get (pc := 61) (ci := 5) C (.ref (h 1)) bi_X5 rfl 0 0 (by decide) rfl bf_X5_7 rfl rfl dX5_rule_61 ?_
  refine z_iload (pc := 64) C 0 dX5_rule_64 rfl ?_
  obtain ⟨hv1, hf⟩ := bb_g_some hf
  refine z_iald (pc := 66) C 1 0 ((y1 + y0).toNatClampNeg) rfl rfl hv1 rfl dX5_rule_66 ?_
  refine z_istore (pc := 67) (lv' := [(5, .int (s0.2.1 0 (y1 + y0).toNatClampNeg)), (4, .int (y1 + y0)), (0, .ref (h 0)), (3, .int x3)]) C dX5_rule_67 (by decide) rfl ?_
  refine z_aload_n (pc := 69) (i := 0) C 2 dX5_rule_69 rfl rfl ?_
  refine z_get (pc := 70) (ci := 5) C (.ref (h 1)) bi_X5 rfl 0 0 (by decide) rfl bf_X5_7 rfl rfl dX5_rule_70 ?_
  refine z_iload (pc := 73) C 1 dX5_rule_73 rfl ?_
  refine z_iload_n (pc := 75) (i := 3) C 3 dX5_rule_75 rfl rfl ?_
  obtain ⟨hv2, hf⟩ := bb_g_some hf
  refine z_iast (pc := 76) (ws' := wX5 X.cs h (bb_sA s0 0 (upd (s0.2.1 0) (y1 + y0).toNatClampNeg x3))) C 1 0 ((y1 + y0).toNatClampNeg) rfl rfl hv2 rfl rfl dX5_rule_76 ?_
  refine z_lv [0] rfl ?_
  exact B_X5_rule_77 C hR hr h R  hf
noncomputable def F_X5_rule_34 (s0 : bb_O) (x1 : Int32) (x2 : Int32) (x3 : Int32) (y0 : Int64) (y1 : Int64) (y2 : Int64) : Option (Int32 × bb_O) := (F_X5_in_0 y2 y1 y0).bind (fun q1 => if q1 = 0 then (F_X5_rule_40 s0) else (if x2 = 0 then (F_X5_rule_57 s0 x3 ((2 : Int32)) (((9 : Int32)) + (((5 : Int32)) * x1))) else (F_X5_rule_57 s0 x3 ((4 : Int32)) (((9 : Int32)) + (((5 : Int32)) * x1)))))
set_option maxHeartbeats 4000000 in
set_option maxRecDepth 100000 in
theorem B_X5_rule_34 {X : bb_X} (C : bb_C X RX5 cX5_rule 6) (hR : bb_r X 3) (hr : X.meth.sig.returnType = (some .int)) (h : Nat → Nat) {z : (Int32 × bb_O)} (R : bb_R X (some (.int z.1)) (wX5 X.cs h z.2)) {s0 : bb_O} {x1 : Int32} {x2 : Int32} {x3 : Int32} {y0 : Int64} {y1 : Int64} {y2 : Int64} (hf : F_X5_rule_34 s0 x1 x2 x3 y0 y1 y2 = some z) : bb_Z X 6 (wX5 X.cs h s0) 34 [(0, .ref (h 0)), (1, .int x1), (2, .int x2), (3, .int x3)] [.long y0, .long y1, .long y2] := by
  obtain ⟨q1, hq1, hf⟩ := bb_b_some hf
  refine z_callSi (pc := 34) (As := [.long y2, .long y1, .long y0]) (rest := []) C (hR.le (by decide)) (c_X5_in hq1) (bb_cut_none _) bv_X5_in bm_X5_49 rfl rfl (Nat.le_of_ble_eq_true rfl) dX5_rule_34 ?_
  refine z_if_ne (pc := 37) C 42 dX5_rule_37 (by decide) (fun hc2 => ?_) (fun hc2 => ?_)
  · have hf := bb_e hf hc2
    refine z_bipush (pc := 42) C (9 : Int32) dX5_rule_42 (by decide) ?_
    refine z_iconst (pc := 44) C (5 : Int32) dX5_rule_44 (by decide) ?_
    refine z_iload_n (pc := 45) (i := 1) C 1 dX5_rule_45 rfl rfl ?_
    refine z_imul (pc := 46) C dX5_rule_46 ?_
    refine z_iadd (pc := 47) C dX5_rule_47 ?_
    refine z_iload_n (pc := 48) (i := 2) C 2 dX5_rule_48 rfl rfl ?_
    refine z_if_ne (pc := 49) C 56 dX5_rule_49 (by decide) (fun hc3 => ?_) (fun hc3 => ?_)
    · have hf := bb_e hf hc3
      refine z_iconst (pc := 56) C (4 : Int32) dX5_rule_56 (by decide) ?_
      refine z_lv [0, 3] rfl ?_
      exact B_X5_rule_57 C hR hr h R  hf
    · have hf := bb_t hf hc3
      refine z_iconst (pc := 52) C (2 : Int32) dX5_rule_52 (by decide) ?_
      refine z_goto (pc := 53) C 57 dX5_rule_53 (by decide) ?_
      refine z_lv [0, 3] rfl ?_
      exact B_X5_rule_57 C hR hr h R  hf
  · have hf := bb_t hf hc2
    refine z_lv [] rfl ?_
    exact B_X5_rule_40 C hR hr h R  hf
noncomputable def F_X5_rule_0 (s0 : bb_O) (x1 : Int32) (x2 : Int32) (x3 : Int32) : Option (Int32 × bb_O) := (F_X5_isPerson_0 s0 x1).bind (fun q1 => if q1 = 0 then (F_X5_rule_40 s0) else ((F_X5_in_0 (x2.toInt64) ((0 : Int64)) ((1 : Int64))).bind (fun q3 => if q3 = 0 then (F_X5_rule_40 s0) else (if x2 = 0 then (F_X5_rule_34 s0 x1 x2 x3 ((9 : Int64)) ((0 : Int64)) (x3.toInt64)) else (F_X5_rule_34 s0 x1 x2 x3 ((63 : Int64)) ((0 : Int64)) (x3.toInt64))))))
set_option maxHeartbeats 4000000 in
set_option maxRecDepth 100000 in
theorem B_X5_rule_0 {X : bb_X} (C : bb_C X RX5 cX5_rule 6) (hR : bb_r X 3) (hr : X.meth.sig.returnType = (some .int)) (h : Nat → Nat) {z : (Int32 × bb_O)} (R : bb_R X (some (.int z.1)) (wX5 X.cs h z.2)) {s0 : bb_O} {x1 : Int32} {x2 : Int32} {x3 : Int32} (hf : F_X5_rule_0 s0 x1 x2 x3 = some z) : bb_Z X 6 (wX5 X.cs h s0) 0 [(0, .ref (h 0)), (1, .int x1), (2, .int x2), (3, .int x3)] [] := by
  refine z_aload_n (pc := 0) (i := 0) C 0 dX5_rule_0 rfl rfl ?_
  refine z_iload_n (pc := 1) (i := 1) C 1 dX5_rule_1 rfl rfl ?_
  obtain ⟨q1, hq1, hf⟩ := bb_b_some hf
  refine z_callVi (pc := 2) (ci := 5) (q0 := 0) (As := [.int x1]) (rest := []) C (hR.le (by decide)) (c_X5_isPerson h hq1) (bb_cut_self _ _) bv_X5_isPerson bm_X5_107 rfl rfl rfl rfl (Nat.le_of_ble_eq_true rfl) dX5_rule_2 ?_
  refine z_if_eq (pc := 5) C 40 dX5_rule_5 (by decide) (fun hc2 => ?_) (fun hc2 => ?_)
  · have hf := bb_t hf hc2
    refine z_lv [] rfl ?_
    exact B_X5_rule_40 C hR hr h R  hf
  · have hf := bb_e hf hc2
    refine z_iload_n (pc := 8) (i := 2) C 2 dX5_rule_8 rfl rfl ?_
    refine z_i2l (pc := 9) C dX5_rule_9 ?_
    refine z_lconst (pc := 10) C (0 : Int64) dX5_rule_10 (by decide) ?_
    refine z_lconst (pc := 11) C (1 : Int64) dX5_rule_11 (by decide) ?_
    obtain ⟨q3, hq3, hf⟩ := bb_b_some hf
    refine z_callSi (pc := 12) (As := [.long (x2.toInt64), .long ((0 : Int64)), .long ((1 : Int64))]) (rest := []) C (hR.le (by decide)) (c_X5_in hq3) (bb_cut_none _) bv_X5_in bm_X5_49 rfl rfl (Nat.le_of_ble_eq_true rfl) dX5_rule_12 ?_
    refine z_if_eq (pc := 15) C 40 dX5_rule_15 (by decide) (fun hc4 => ?_) (fun hc4 => ?_)
    · have hf := bb_t hf hc4
      refine z_lv [] rfl ?_
      exact B_X5_rule_40 C hR hr h R  hf
    · have hf := bb_e hf hc4
      refine z_iload_n (pc := 18) (i := 3) C 3 dX5_rule_18 rfl rfl ?_
      refine z_i2l (pc := 19) C dX5_rule_19 ?_
      refine z_lconst (pc := 20) C (0 : Int64) dX5_rule_20 (by decide) ?_
      refine z_iload_n (pc := 21) (i := 2) C 2 dX5_rule_21 rfl rfl ?_
      refine z_if_ne (pc := 22) C 31 dX5_rule_22 (by decide) (fun hc5 => ?_) (fun hc5 => ?_)
      · have hf := bb_e hf hc5
        refine z_ldc2_w (pc := 31) C bk_X5_101 dX5_rule_31 ?_
        exact B_X5_rule_34 C hR hr h R  hf
      · have hf := bb_t hf hc5
        refine z_ldc2_w (pc := 25) C bk_X5_99 dX5_rule_25 ?_
        refine z_goto (pc := 28) C 34 dX5_rule_28 (by decide) ?_
        exact B_X5_rule_34 C hR hr h R  hf
theorem c_X5_rule {l : Launch} {D : va_G} {cs : Nat → ClassId} (h : Nat → Nat) {s0 : bb_O} {x1 : Int32} {x2 : Int32} {x3 : Int32} {z : (Int32 × bb_O)} (hf : F_X5_rule_0 s0 x1 x2 x3 = some z) : bb_M l yX5_rule cX5_rule 6 (some .int) 3 D cs [.ref (h 0), .int x1, .int x2, .int x3] (some (.int z.1)) (wX5 cs h s0) (wX5 cs h z.2) := bb_mg (by decide) rfl (Nat.le_of_ble_eq_true rfl) rfl (fun X hl hD hcs C hR hr R => by
  subst hl
  subst hD
  subst hcs
  exact B_X5_rule_0 C hR hr h R hf)
/-! X5_count: reads, level 5 -/
noncomputable def F_X5_count_49 (s0 : bb_O) (y0 : Int32) : Option Int32 := some y0
set_option maxHeartbeats 4000000 in
set_option maxRecDepth 100000 in
theorem B_X5_count_49 {X : bb_X} (C : bb_C X RX5 cX5_count 2) (hR : bb_r X 5) (hr : X.meth.sig.returnType = (some .int)) (h : Nat → Nat) {z : Int32} {s0 : bb_O} (R : bb_R X (some (.int z)) (wX5 X.cs h s0)) {y0 : Int32} (hf : F_X5_count_49 s0 y0 = some z) : bb_Z X 2 (wX5 X.cs h s0) 49 [] [.int y0] := by
  obtain rfl := Option.some.inj hf
  exact z_iret (pc := 49) C hr R dX5_count_49
noncomputable def F_X5_count_0 (s0 : bb_O) (x1 : Int32) : Option Int32 := (F_X5_in_0 (x1.toInt64) ((0 : Int64)) ((7 : Int64))).bind (fun q1 => if q1 = 0 then (if x1 = ((8 : Int32)) then ((F_X5_follows_0 s0 ((0 : Int32))).bind (fun q5 => F_X5_count_49 s0 q5)) else (if x1 = ((9 : Int32)) then (F_X5_count_49 s0 (s0.1 9)) else (F_X5_count_49 s0 ((-1 : Int32))))) else (bb_g (vp_in x1 39) (F_X5_count_49 s0 (s0.2.1 0 x1.toNatClampNeg))))
set_option maxHeartbeats 4000000 in
set_option maxRecDepth 100000 in
theorem B_X5_count_0 {X : bb_X} (C : bb_C X RX5 cX5_count 2) (hR : bb_r X 5) (hr : X.meth.sig.returnType = (some .int)) (h : Nat → Nat) {z : Int32} {s0 : bb_O} (R : bb_R X (some (.int z)) (wX5 X.cs h s0)) {x1 : Int32} (hf : F_X5_count_0 s0 x1 = some z) : bb_Z X 2 (wX5 X.cs h s0) 0 [(0, .ref (h 0)), (1, .int x1)] [] := by
  refine z_iload_n (pc := 0) (i := 1) C 1 dX5_count_0 rfl rfl ?_
  refine z_i2l (pc := 1) C dX5_count_1 ?_
  refine z_lconst (pc := 2) C (0 : Int64) dX5_count_2 (by decide) ?_
  refine z_ldc2_w (pc := 3) C bk_X5_112 dX5_count_3 ?_
  obtain ⟨q1, hq1, hf⟩ := bb_b_some hf
  refine z_callSi (pc := 6) (As := [.long (x1.toInt64), .long ((0 : Int64)), .long ((7 : Int64))]) (rest := []) C (hR.le (by decide)) (c_X5_in hq1) (bb_cut_none _) bv_X5_in bm_X5_49 rfl rfl (Nat.le_of_ble_eq_true rfl) dX5_count_6 ?_
  refine z_if_eq (pc := 9) C 21 dX5_count_9 (by decide) (fun hc2 => ?_) (fun hc2 => ?_)
  · have hf := bb_t hf hc2
    refine z_iload_n (pc := 21) (i := 1) C 1 dX5_count_21 rfl rfl ?_
    refine z_bipush (pc := 22) C (8 : Int32) dX5_count_22 (by decide) ?_
    refine z_icmp_ne (pc := 24) C 35 dX5_count_24 (by decide) (fun hc3 => ?_) (fun hc3 => ?_)
    · have hf := bb_e hf hc3
      refine z_iload_n (pc := 35) (i := 1) C 1 dX5_count_35 rfl rfl ?_
      refine z_bipush (pc := 36) C (9 : Int32) dX5_count_36 (by decide) ?_
      refine z_icmp_ne (pc := 38) C 48 dX5_count_38 (by decide) (fun hc4 => ?_) (fun hc4 => ?_)
      · have hf := bb_e hf hc4
        refine z_iconst (pc := 48) C (-1 : Int32) dX5_count_48 (by decide) ?_
        refine z_lv [] rfl ?_
        exact B_X5_count_49 C hR hr h R  hf
      · have hf := bb_t hf hc4
        refine z_aload_n (pc := 41) (i := 0) C 0 dX5_count_41 rfl rfl ?_
        refine z_get (pc := 42) (ci := 5) C (.int (s0.1 9)) bi_X5 rfl 0 9 (by decide) rfl bf_X5_45 rfl rfl dX5_count_42 ?_
        refine z_goto (pc := 45) C 49 dX5_count_45 (by decide) ?_
        refine z_lv [] rfl ?_
        exact B_X5_count_49 C hR hr h R  hf
    · have hf := bb_t hf hc3
      refine z_aload_n (pc := 27) (i := 0) C 0 dX5_count_27 rfl rfl ?_
      refine z_iconst (pc := 28) C (0 : Int32) dX5_count_28 (by decide) ?_
      obtain ⟨q5, hq5, hf⟩ := bb_b_some hf
      refine z_callVi (pc := 29) (ci := 5) (q0 := 0) (As := [.int ((0 : Int32))]) (rest := []) C (hR.le (by decide)) (c_X5_follows h hq5) (bb_cut_self _ _) bv_X5_follows bm_X5_74 rfl rfl rfl rfl (Nat.le_of_ble_eq_true rfl) dX5_count_29 ?_
      refine z_goto (pc := 32) C 49 dX5_count_32 (by decide) ?_
      refine z_lv [] rfl ?_
      exact B_X5_count_49 C hR hr h R  hf
  · have hf := bb_e hf hc2
    refine z_aload_n (pc := 12) (i := 0) C 0 dX5_count_12 rfl rfl ?_
    refine z_get (pc := 13) (ci := 5) C (.ref (h 1)) bi_X5 rfl 0 0 (by decide) rfl bf_X5_7 rfl rfl dX5_count_13 ?_
    refine z_iload_n (pc := 16) (i := 1) C 1 dX5_count_16 rfl rfl ?_
    obtain ⟨hv6, hf⟩ := bb_g_some hf
    refine z_iald (pc := 17) C 1 0 (x1.toNatClampNeg) rfl rfl hv6 rfl dX5_count_17 ?_
    refine z_goto (pc := 18) C 49 dX5_count_18 (by decide) ?_
    refine z_lv [] rfl ?_
    exact B_X5_count_49 C hR hr h R  hf
theorem c_X5_count {l : Launch} {D : va_G} {cs : Nat → ClassId} (h : Nat → Nat) {s0 : bb_O} {x1 : Int32} {z : Int32} (hf : F_X5_count_0 s0 x1 = some z) : bb_M l yX5_count cX5_count 2 (some .int) 5 D cs [.ref (h 0), .int x1] (some (.int z)) (wX5 cs h s0) (wX5 cs h s0) := bb_mg (by decide) rfl (Nat.le_of_ble_eq_true rfl) rfl (fun X hl hD hcs C hR hr R => by
  subst hl
  subst hD
  subst hcs
  exact B_X5_count_0 C hR hr h R hf)
/-! X5_type: writes, level 2 -/
noncomputable def F_X5_type_48 (s0 : bb_O) : Option (Int32 × bb_O) := some (s0.1 4, s0)
set_option maxHeartbeats 4000000 in
set_option maxRecDepth 100000 in
theorem B_X5_type_48 {X : bb_X} (C : bb_C X RX5 cX5_type 2) (hR : bb_r X 2) (hr : X.meth.sig.returnType = (some .int)) (h : Nat → Nat) {z : (Int32 × bb_O)} (R : bb_R X (some (.int z.1)) (wX5 X.cs h z.2)) {s0 : bb_O} (hf : F_X5_type_48 s0 = some z) : bb_Z X 2 (wX5 X.cs h s0) 48 [(0, .ref (h 0))] [] := by
  refine z_aload_n (pc := 48) (i := 0) C 0 dX5_type_48 rfl rfl ?_
  refine z_get (pc := 49) (ci := 5) C (.int (s0.1 4)) bi_X5 rfl 0 4 (by decide) rfl bf_X5_118 rfl rfl dX5_type_49 ?_
  obtain rfl := Option.some.inj hf
  exact z_iret (pc := 52) C hr R dX5_type_52
noncomputable def F_X5_type_38 (s0 : bb_O) : Option (Int32 × bb_O) := F_X5_type_48 (bb_sf s0 4 ((s0.1 4) + ((1 : Int32))))
set_option maxHeartbeats 4000000 in
set_option maxRecDepth 100000 in
theorem B_X5_type_38 {X : bb_X} (C : bb_C X RX5 cX5_type 2) (hR : bb_r X 2) (hr : X.meth.sig.returnType = (some .int)) (h : Nat → Nat) {z : (Int32 × bb_O)} (R : bb_R X (some (.int z.1)) (wX5 X.cs h z.2)) {s0 : bb_O} (hf : F_X5_type_38 s0 = some z) : bb_Z X 2 (wX5 X.cs h s0) 38 [(0, .ref (h 0))] [] := by
  refine z_aload_n (pc := 38) (i := 0) C 0 dX5_type_38 rfl rfl ?_
  refine z_dup (pc := 39) C dX5_type_39 rfl ?_
  refine z_get (pc := 40) (ci := 5) C (.int (s0.1 4)) bi_X5 rfl 0 4 (by decide) rfl bf_X5_118 rfl rfl dX5_type_40 ?_
  refine z_iconst (pc := 43) C (1 : Int32) dX5_type_43 (by decide) ?_
  refine z_iadd (pc := 44) C dX5_type_44 ?_
  refine z_put (pc := 45) (ci := 5) (ty := .int) (ws' := wX5 X.cs h (bb_sf s0 4 ((s0.1 4) + ((1 : Int32))))) C bi_X5 tyX5_ok nmX5 rfl 0 4 (by decide) rfl bf_X5_118 rfl rfl rfl rfl rfl (Nat.le_of_ble_eq_true rfl) rfl dX5_type_45 ?_
  exact B_X5_type_48 C hR hr h R  hf
noncomputable def F_X5_type_0 (s0 : bb_O) (x1 : Int32) : Option (Int32 × bb_O) := (F_X5_in_0 (x1.toInt64) ((32 : Int64)) ((126 : Int64))).bind (fun q1 => if q1 = 0 then (some ((-1 : Int32), s0)) else (if (s0.1 4) = ((90 : Int32)) then (some ((-3 : Int32), s0)) else (bb_g (vp_in (s0.1 4) 90) (F_X5_type_38 (bb_sA s0 3 (upd (s0.2.1 3) (s0.1 4).toNatClampNeg x1))))))
set_option maxHeartbeats 4000000 in
set_option maxRecDepth 100000 in
theorem B_X5_type_0 {X : bb_X} (C : bb_C X RX5 cX5_type 2) (hR : bb_r X 2) (hr : X.meth.sig.returnType = (some .int)) (h : Nat → Nat) {z : (Int32 × bb_O)} (R : bb_R X (some (.int z.1)) (wX5 X.cs h z.2)) {s0 : bb_O} {x1 : Int32} (hf : F_X5_type_0 s0 x1 = some z) : bb_Z X 2 (wX5 X.cs h s0) 0 [(0, .ref (h 0)), (1, .int x1)] [] := by
  refine z_iload_n (pc := 0) (i := 1) C 1 dX5_type_0 rfl rfl ?_
  refine z_i2l (pc := 1) C dX5_type_1 ?_
  refine z_ldc2_w (pc := 2) C bk_X5_114 dX5_type_2 ?_
  refine z_ldc2_w (pc := 5) C bk_X5_116 dX5_type_5 ?_
  obtain ⟨q1, hq1, hf⟩ := bb_b_some hf
  refine z_callSi (pc := 8) (As := [.long (x1.toInt64), .long ((32 : Int64)), .long ((126 : Int64))]) (rest := []) C (hR.le (by decide)) (c_X5_in hq1) (bb_cut_none _) bv_X5_in bm_X5_49 rfl rfl (Nat.le_of_ble_eq_true rfl) dX5_type_8 ?_
  refine z_if_ne (pc := 11) C 16 dX5_type_11 (by decide) (fun hc2 => ?_) (fun hc2 => ?_)
  · have hf := bb_e hf hc2
    refine z_aload_n (pc := 16) (i := 0) C 0 dX5_type_16 rfl rfl ?_
    refine z_get (pc := 17) (ci := 5) C (.int (s0.1 4)) bi_X5 rfl 0 4 (by decide) rfl bf_X5_118 rfl rfl dX5_type_17 ?_
    refine z_bipush (pc := 20) C (90 : Int32) dX5_type_20 (by decide) ?_
    refine z_icmp_ne (pc := 22) C 28 dX5_type_22 (by decide) (fun hc3 => ?_) (fun hc3 => ?_)
    · have hf := bb_e hf hc3
      refine z_aload_n (pc := 28) (i := 0) C 0 dX5_type_28 rfl rfl ?_
      refine z_get (pc := 29) (ci := 5) C (.ref (h 4)) bi_X5 rfl 0 3 (by decide) rfl bf_X5_13 rfl rfl dX5_type_29 ?_
      refine z_aload_n (pc := 32) (i := 0) C 0 dX5_type_32 rfl rfl ?_
      refine z_get (pc := 33) (ci := 5) C (.int (s0.1 4)) bi_X5 rfl 0 4 (by decide) rfl bf_X5_118 rfl rfl dX5_type_33 ?_
      refine z_iload_n (pc := 36) (i := 1) C 1 dX5_type_36 rfl rfl ?_
      obtain ⟨hv4, hf⟩ := bb_g_some hf
      refine z_iast (pc := 37) (ws' := wX5 X.cs h (bb_sA s0 3 (upd (s0.2.1 3) (s0.1 4).toNatClampNeg x1))) C 2 0 ((s0.1 4).toNatClampNeg) rfl rfl hv4 rfl rfl dX5_type_37 ?_
      refine z_lv [0] rfl ?_
      exact B_X5_type_38 C hR hr h R  hf
    · have hf := bb_t hf hc3
      refine z_bipush (pc := 25) C (-3 : Int32) dX5_type_25 (by decide) ?_
      obtain rfl := Option.some.inj hf
      exact z_iret (pc := 27) C hr R dX5_type_27
  · have hf := bb_t hf hc2
    refine z_iconst (pc := 14) C (-1 : Int32) dX5_type_14 (by decide) ?_
    obtain rfl := Option.some.inj hf
    exact z_iret (pc := 15) C hr R dX5_type_15
theorem c_X5_type {l : Launch} {D : va_G} {cs : Nat → ClassId} (h : Nat → Nat) {s0 : bb_O} {x1 : Int32} {z : (Int32 × bb_O)} (hf : F_X5_type_0 s0 x1 = some z) : bb_M l yX5_type cX5_type 2 (some .int) 2 D cs [.ref (h 0), .int x1] (some (.int z.1)) (wX5 cs h s0) (wX5 cs h z.2) := bb_mg (by decide) rfl (Nat.le_of_ble_eq_true rfl) rfl (fun X hl hD hcs C hR hr R => by
  subst hl
  subst hD
  subst hcs
  exact B_X5_type_0 C hR hr h R hf)
/-! X5_here: writes, level 1 -/
noncomputable def F_X5_here_62 (s0 : bb_O) (y0 : Int32) : Option (Int32 × bb_O) := some (y0, s0)
set_option maxHeartbeats 4000000 in
set_option maxRecDepth 100000 in
theorem B_X5_here_62 {X : bb_X} (C : bb_C X RX5 cX5_here 1) (hR : bb_r X 1) (hr : X.meth.sig.returnType = (some .int)) (h : Nat → Nat) {z : (Int32 × bb_O)} (R : bb_R X (some (.int z.1)) (wX5 X.cs h z.2)) {s0 : bb_O} {y0 : Int32} (hf : F_X5_here_62 s0 y0 = some z) : bb_Z X 1 (wX5 X.cs h s0) 62 [] [.int y0] := by
  obtain rfl := Option.some.inj hf
  exact z_iret (pc := 62) C hr R dX5_here_62
noncomputable def F_X5_here_38 (s0 : bb_O) : Option (Int32 × bb_O) := if (s0.1 4) ≤ (s0.1 5) then (F_X5_here_62 s0 ((0 : Int32))) else (bb_g (vp_in (s0.1 5) 90) (F_X5_here_62 s0 (s0.2.1 3 (s0.1 5).toNatClampNeg)))
set_option maxHeartbeats 4000000 in
set_option maxRecDepth 100000 in
theorem B_X5_here_38 {X : bb_X} (C : bb_C X RX5 cX5_here 1) (hR : bb_r X 1) (hr : X.meth.sig.returnType = (some .int)) (h : Nat → Nat) {z : (Int32 × bb_O)} (R : bb_R X (some (.int z.1)) (wX5 X.cs h z.2)) {s0 : bb_O} (hf : F_X5_here_38 s0 = some z) : bb_Z X 1 (wX5 X.cs h s0) 38 [(0, .ref (h 0))] [] := by
  refine z_aload_n (pc := 38) (i := 0) C 0 dX5_here_38 rfl rfl ?_
  refine z_get (pc := 39) (ci := 5) C (.int (s0.1 5)) bi_X5 rfl 0 5 (by decide) rfl bf_X5_121 rfl rfl dX5_here_39 ?_
  refine z_aload_n (pc := 42) (i := 0) C 0 dX5_here_42 rfl rfl ?_
  refine z_get (pc := 43) (ci := 5) C (.int (s0.1 4)) bi_X5 rfl 0 4 (by decide) rfl bf_X5_118 rfl rfl dX5_here_43 ?_
  refine z_icmp_ge (pc := 46) C 61 dX5_here_46 (by decide) (fun hc1 => ?_) (fun hc1 => ?_)
  · have hf := bb_t hf hc1
    refine z_iconst (pc := 61) C (0 : Int32) dX5_here_61 (by decide) ?_
    refine z_lv [] rfl ?_
    exact B_X5_here_62 C hR hr h R  hf
  · have hf := bb_e hf hc1
    refine z_aload_n (pc := 49) (i := 0) C 0 dX5_here_49 rfl rfl ?_
    refine z_get (pc := 50) (ci := 5) C (.ref (h 4)) bi_X5 rfl 0 3 (by decide) rfl bf_X5_13 rfl rfl dX5_here_50 ?_
    refine z_aload_n (pc := 53) (i := 0) C 0 dX5_here_53 rfl rfl ?_
    refine z_get (pc := 54) (ci := 5) C (.int (s0.1 5)) bi_X5 rfl 0 5 (by decide) rfl bf_X5_121 rfl rfl dX5_here_54 ?_
    obtain ⟨hv2, hf⟩ := bb_g_some hf
    refine z_iald (pc := 57) C 2 0 ((s0.1 5).toNatClampNeg) rfl rfl hv2 rfl dX5_here_57 ?_
    refine z_goto (pc := 58) C 62 dX5_here_58 (by decide) ?_
    refine z_lv [] rfl ?_
    exact B_X5_here_62 C hR hr h R  hf
noncomputable def F_X5_here_35 (k0 : bb_O → Option (Int32 × bb_O)) (s0 : bb_O) : Option (Int32 × bb_O) := k0 s0
set_option maxHeartbeats 4000000 in
set_option maxRecDepth 100000 in
theorem B_X5_here_35 {X : bb_X} (C : bb_C X RX5 cX5_here 1) (hR : bb_r X 1) (hr : X.meth.sig.returnType = (some .int)) (h : Nat → Nat) {z : (Int32 × bb_O)} (R : bb_R X (some (.int z.1)) (wX5 X.cs h z.2)) {k0 : bb_O → Option (Int32 × bb_O)} (hk0 : ∀ (s0 : bb_O), k0 s0 = some z → bb_Z X 1 (wX5 X.cs h s0) 0 [(0, .ref (h 0))] []) {s0 : bb_O} (hf : F_X5_here_35 k0 s0 = some z) : bb_Z X 1 (wX5 X.cs h s0) 35 [(0, .ref (h 0))] [] := by
  refine z_goto (pc := 35) C 0 dX5_here_35 (by decide) ?_
  exact hk0 _ hf
noncomputable def G_X5_here_0 (k0 : bb_O → Option (Int32 × bb_O)) (s0 : bb_O) : Option (Int32 × bb_O) := if (s0.1 4) ≤ (s0.1 5) then (F_X5_here_38 s0) else (bb_g (vp_in (s0.1 5) 90) (if (s0.2.1 3 (s0.1 5).toNatClampNeg) = ((32 : Int32)) then (F_X5_here_35 k0 (bb_sf s0 5 ((s0.1 5) + ((1 : Int32))))) else (F_X5_here_38 s0)))
noncomputable def F_X5_here_0  : Nat → bb_O → Option (Int32 × bb_O)
  | 0, _ => none
  | n + 1, s0 => G_X5_here_0  (F_X5_here_0  n) s0
set_option maxHeartbeats 4000000 in
set_option maxRecDepth 100000 in
theorem A_X5_here_0 {X : bb_X} (C : bb_C X RX5 cX5_here 1) (hR : bb_r X 1) (hr : X.meth.sig.returnType = (some .int)) (h : Nat → Nat) {z : (Int32 × bb_O)} (R : bb_R X (some (.int z.1)) (wX5 X.cs h z.2)) {k0 : bb_O → Option (Int32 × bb_O)} (hk0 : ∀ (s0 : bb_O), k0 s0 = some z → bb_Z X 1 (wX5 X.cs h s0) 0 [(0, .ref (h 0))] []) {s0 : bb_O} (hf : G_X5_here_0 k0 s0 = some z) : bb_Z X 1 (wX5 X.cs h s0) 0 [(0, .ref (h 0))] [] := by
  refine z_aload_n (pc := 0) (i := 0) C 0 dX5_here_0 rfl rfl ?_
  refine z_get (pc := 1) (ci := 5) C (.int (s0.1 5)) bi_X5 rfl 0 5 (by decide) rfl bf_X5_121 rfl rfl dX5_here_1 ?_
  refine z_aload_n (pc := 4) (i := 0) C 0 dX5_here_4 rfl rfl ?_
  refine z_get (pc := 5) (ci := 5) C (.int (s0.1 4)) bi_X5 rfl 0 4 (by decide) rfl bf_X5_118 rfl rfl dX5_here_5 ?_
  refine z_icmp_ge (pc := 8) C 38 dX5_here_8 (by decide) (fun hc1 => ?_) (fun hc1 => ?_)
  · have hf := bb_t hf hc1
    exact B_X5_here_38 C hR hr h R  hf
  · have hf := bb_e hf hc1
    refine z_aload_n (pc := 11) (i := 0) C 0 dX5_here_11 rfl rfl ?_
    refine z_get (pc := 12) (ci := 5) C (.ref (h 4)) bi_X5 rfl 0 3 (by decide) rfl bf_X5_13 rfl rfl dX5_here_12 ?_
    refine z_aload_n (pc := 15) (i := 0) C 0 dX5_here_15 rfl rfl ?_
    refine z_get (pc := 16) (ci := 5) C (.int (s0.1 5)) bi_X5 rfl 0 5 (by decide) rfl bf_X5_121 rfl rfl dX5_here_16 ?_
    obtain ⟨hv2, hf⟩ := bb_g_some hf
    refine z_iald (pc := 19) C 2 0 ((s0.1 5).toNatClampNeg) rfl rfl hv2 rfl dX5_here_19 ?_
    refine z_bipush (pc := 20) C (32 : Int32) dX5_here_20 (by decide) ?_
    refine z_icmp_ne (pc := 22) C 38 dX5_here_22 (by decide) (fun hc3 => ?_) (fun hc3 => ?_)
    · have hf := bb_e hf hc3
      exact B_X5_here_38 C hR hr h R  hf
    · have hf := bb_t hf hc3
      refine z_aload_n (pc := 25) (i := 0) C 0 dX5_here_25 rfl rfl ?_
      refine z_dup (pc := 26) C dX5_here_26 rfl ?_
      refine z_get (pc := 27) (ci := 5) C (.int (s0.1 5)) bi_X5 rfl 0 5 (by decide) rfl bf_X5_121 rfl rfl dX5_here_27 ?_
      refine z_iconst (pc := 30) C (1 : Int32) dX5_here_30 (by decide) ?_
      refine z_iadd (pc := 31) C dX5_here_31 ?_
      refine z_put (pc := 32) (ci := 5) (ty := .int) (ws' := wX5 X.cs h (bb_sf s0 5 ((s0.1 5) + ((1 : Int32))))) C bi_X5 tyX5_ok nmX5 rfl 0 5 (by decide) rfl bf_X5_121 rfl rfl rfl rfl rfl (Nat.le_of_ble_eq_true rfl) rfl dX5_here_32 ?_
      exact B_X5_here_35 C hR hr h R hk0 hf
theorem B_X5_here_0 {X : bb_X} (C : bb_C X RX5 cX5_here 1) (hR : bb_r X 1) (hr : X.meth.sig.returnType = (some .int)) (h : Nat → Nat) {z : (Int32 × bb_O)} (R : bb_R X (some (.int z.1)) (wX5 X.cs h z.2)) : ∀ (n : Nat) (s0 : bb_O), F_X5_here_0  n s0 = some z → bb_Z X 1 (wX5 X.cs h s0) 0 [(0, .ref (h 0))] [] := by
  intro n
  induction n with
  | zero =>
    intro s0 hf
    cases hf
  | succ n ih =>
    intro s0 hf
    exact A_X5_here_0 C hR hr h R  ih hf
noncomputable def F_X5_here_e (s0 : bb_O) : Option (Int32 × bb_O) := F_X5_here_0  bb_N s0 
theorem c_X5_here {l : Launch} {D : va_G} {cs : Nat → ClassId} (h : Nat → Nat) {s0 : bb_O} {z : (Int32 × bb_O)} (hf : F_X5_here_e s0 = some z) : bb_M l yX5_here cX5_here 1 (some .int) 1 D cs [.ref (h 0)] (some (.int z.1)) (wX5 cs h s0) (wX5 cs h z.2) := bb_mg (by decide) rfl (Nat.le_of_ble_eq_true rfl) rfl (fun X hl hD hcs C hR hr R => by
  subst hl
  subst hD
  subst hcs
  exact B_X5_here_0 C hR hr h R bb_N _ hf)
/-! X5_must: writes, level 1 -/
noncomputable def F_X5_must_41 (s0 : bb_O) : Option (bb_O) := some s0
set_option maxHeartbeats 4000000 in
set_option maxRecDepth 100000 in
theorem B_X5_must_41 {X : bb_X} (C : bb_C X RX5 cX5_must 2) (hR : bb_r X 1) (hr : X.meth.sig.returnType = none) (h : Nat → Nat) {z : (bb_O)} (R : bb_R X none (wX5 X.cs h z)) {s0 : bb_O} (hf : F_X5_must_41 s0 = some z) : bb_Z X 2 (wX5 X.cs h s0) 41 [] [] := by
  obtain rfl := Option.some.inj hf
  exact z_vret (pc := 41) C hr R dX5_must_41
noncomputable def F_X5_must_37 (s0 : bb_O) (y0 : Int32) (y1 : Int32) : Option (bb_O) := F_X5_must_41 (bb_sf s0 5 (y1 + y0))
set_option maxHeartbeats 4000000 in
set_option maxRecDepth 100000 in
theorem B_X5_must_37 {X : bb_X} (C : bb_C X RX5 cX5_must 2) (hR : bb_r X 1) (hr : X.meth.sig.returnType = none) (h : Nat → Nat) {z : (bb_O)} (R : bb_R X none (wX5 X.cs h z)) {s0 : bb_O} {y0 : Int32} {y1 : Int32} (hf : F_X5_must_37 s0 y0 y1 = some z) : bb_Z X 2 (wX5 X.cs h s0) 37 [] [.int y0, .int y1, .ref (h 0)] := by
  refine z_iadd (pc := 37) C dX5_must_37 ?_
  refine z_put (pc := 38) (ci := 5) (ty := .int) (ws' := wX5 X.cs h (bb_sf s0 5 (y1 + y0))) C bi_X5 tyX5_ok nmX5 rfl 0 5 (by decide) rfl bf_X5_121 rfl rfl rfl rfl rfl (Nat.le_of_ble_eq_true rfl) rfl dX5_must_38 ?_
  exact B_X5_must_41 C hR hr h R  hf
noncomputable def F_X5_must_20 (s0 : bb_O) : Option (bb_O) := if (s0.1 6) = 0 then (F_X5_must_37 s0 ((1 : Int32)) (s0.1 5)) else (F_X5_must_37 s0 ((0 : Int32)) (s0.1 5))
set_option maxHeartbeats 4000000 in
set_option maxRecDepth 100000 in
theorem B_X5_must_20 {X : bb_X} (C : bb_C X RX5 cX5_must 2) (hR : bb_r X 1) (hr : X.meth.sig.returnType = none) (h : Nat → Nat) {z : (bb_O)} (R : bb_R X none (wX5 X.cs h z)) {s0 : bb_O} (hf : F_X5_must_20 s0 = some z) : bb_Z X 2 (wX5 X.cs h s0) 20 [(0, .ref (h 0))] [] := by
  refine z_aload_n (pc := 20) (i := 0) C 0 dX5_must_20 rfl rfl ?_
  refine z_dup (pc := 21) C dX5_must_21 rfl ?_
  refine z_get (pc := 22) (ci := 5) C (.int (s0.1 5)) bi_X5 rfl 0 5 (by decide) rfl bf_X5_121 rfl rfl dX5_must_22 ?_
  refine z_aload_n (pc := 25) (i := 0) C 0 dX5_must_25 rfl rfl ?_
  refine z_get (pc := 26) (ci := 5) C (.int (s0.1 6)) bi_X5 rfl 0 6 (by decide) rfl bf_X5_124 rfl rfl dX5_must_26 ?_
  refine z_if_eq (pc := 29) C 36 dX5_must_29 (by decide) (fun hc1 => ?_) (fun hc1 => ?_)
  · have hf := bb_t hf hc1
    refine z_iconst (pc := 36) C (1 : Int32) dX5_must_36 (by decide) ?_
    refine z_lv [] rfl ?_
    exact B_X5_must_37 C hR hr h R  hf
  · have hf := bb_e hf hc1
    refine z_iconst (pc := 32) C (0 : Int32) dX5_must_32 (by decide) ?_
    refine z_goto (pc := 33) C 37 dX5_must_33 (by decide) ?_
    refine z_lv [] rfl ?_
    exact B_X5_must_37 C hR hr h R  hf
noncomputable def F_X5_must_17 (s0 : bb_O) (y0 : Int32) : Option (bb_O) := bb_g (bb_z y0) (F_X5_must_20 (bb_sf s0 6 y0))
set_option maxHeartbeats 4000000 in
set_option maxRecDepth 100000 in
theorem B_X5_must_17 {X : bb_X} (C : bb_C X RX5 cX5_must 2) (hR : bb_r X 1) (hr : X.meth.sig.returnType = none) (h : Nat → Nat) {z : (bb_O)} (R : bb_R X none (wX5 X.cs h z)) {s0 : bb_O} {y0 : Int32} (hf : F_X5_must_17 s0 y0 = some z) : bb_Z X 2 (wX5 X.cs h s0) 17 [(0, .ref (h 0))] [.int y0, .ref (h 0)] := by
  obtain ⟨hz1, hf⟩ := bb_g_some hf
  refine z_put (pc := 17) (ci := 5) (ty := .boolean) (ws' := wX5 X.cs h (bb_sf s0 6 y0)) C bi_X5 tyX5_ok nmX5 rfl 0 6 (by decide) rfl bf_X5_124 rfl rfl (bb_nz hz1) (bb_fz hz1) rfl (Nat.le_of_ble_eq_true rfl) rfl dX5_must_17 ?_
  exact B_X5_must_20 C hR hr h R  hf
noncomputable def F_X5_must_12 (s0 : bb_O) : Option (bb_O) := F_X5_must_17 s0 ((1 : Int32))
set_option maxHeartbeats 4000000 in
set_option maxRecDepth 100000 in
theorem B_X5_must_12 {X : bb_X} (C : bb_C X RX5 cX5_must 2) (hR : bb_r X 1) (hr : X.meth.sig.returnType = none) (h : Nat → Nat) {z : (bb_O)} (R : bb_R X none (wX5 X.cs h z)) {s0 : bb_O} (hf : F_X5_must_12 s0 = some z) : bb_Z X 2 (wX5 X.cs h s0) 12 [(0, .ref (h 0))] [.ref (h 0)] := by
  refine z_iconst (pc := 12) C (1 : Int32) dX5_must_12 (by decide) ?_
  refine z_goto (pc := 13) C 17 dX5_must_13 (by decide) ?_
  exact B_X5_must_17 C hR hr h R  hf
noncomputable def F_X5_must_0 (s0 : bb_O) (x1 : Int32) : Option (bb_O) := if (s0.1 6) = 0 then (if x1 = 0 then (F_X5_must_12 s0) else (F_X5_must_17 s0 ((0 : Int32)))) else (F_X5_must_12 s0)
set_option maxHeartbeats 4000000 in
set_option maxRecDepth 100000 in
theorem B_X5_must_0 {X : bb_X} (C : bb_C X RX5 cX5_must 2) (hR : bb_r X 1) (hr : X.meth.sig.returnType = none) (h : Nat → Nat) {z : (bb_O)} (R : bb_R X none (wX5 X.cs h z)) {s0 : bb_O} {x1 : Int32} (hf : F_X5_must_0 s0 x1 = some z) : bb_Z X 2 (wX5 X.cs h s0) 0 [(0, .ref (h 0)), (1, .int x1)] [] := by
  refine z_aload_n (pc := 0) (i := 0) C 0 dX5_must_0 rfl rfl ?_
  refine z_aload_n (pc := 1) (i := 0) C 0 dX5_must_1 rfl rfl ?_
  refine z_get (pc := 2) (ci := 5) C (.int (s0.1 6)) bi_X5 rfl 0 6 (by decide) rfl bf_X5_124 rfl rfl dX5_must_2 ?_
  refine z_if_ne (pc := 5) C 12 dX5_must_5 (by decide) (fun hc1 => ?_) (fun hc1 => ?_)
  · have hf := bb_e hf hc1
    refine z_lv [0] rfl ?_
    exact B_X5_must_12 C hR hr h R  hf
  · have hf := bb_t hf hc1
    refine z_iload_n (pc := 8) (i := 1) C 1 dX5_must_8 rfl rfl ?_
    refine z_if_ne (pc := 9) C 16 dX5_must_9 (by decide) (fun hc2 => ?_) (fun hc2 => ?_)
    · have hf := bb_e hf hc2
      refine z_iconst (pc := 16) C (0 : Int32) dX5_must_16 (by decide) ?_
      refine z_lv [0] rfl ?_
      exact B_X5_must_17 C hR hr h R  hf
    · have hf := bb_t hf hc2
      refine z_lv [0] rfl ?_
      exact B_X5_must_12 C hR hr h R  hf
theorem c_X5_must {l : Launch} {D : va_G} {cs : Nat → ClassId} (h : Nat → Nat) {s0 : bb_O} {x1 : Int32} {z : (bb_O)} (hf : F_X5_must_0 s0 x1 = some z) : bb_M l yX5_must cX5_must 2 none 1 D cs [.ref (h 0), .int x1] none (wX5 cs h s0) (wX5 cs h z) := bb_mg (by decide) rfl (Nat.le_of_ble_eq_true rfl) rfl (fun X hl hD hcs C hR hr R => by
  subst hl
  subst hD
  subst hcs
  exact B_X5_must_0 C hR hr h R hf)
/-! X5_digit: writes, level 2 -/
noncomputable def F_X5_digit_18 (s0 : bb_O) (x1 : Int32) (x2 : Int32) (y0 : Int32) : Option (Int32 × bb_O) := (F_X5_in_0 (y0.toInt64) (x1.toInt64) (x2.toInt64)).bind (fun q1 => (F_X5_must_0 s0 q1).bind (fun q2 => some (y0, q2)))
set_option maxHeartbeats 4000000 in
set_option maxRecDepth 100000 in
theorem B_X5_digit_18 {X : bb_X} (C : bb_C X RX5 cX5_digit 4) (hR : bb_r X 2) (hr : X.meth.sig.returnType = (some .int)) (h : Nat → Nat) {z : (Int32 × bb_O)} (R : bb_R X (some (.int z.1)) (wX5 X.cs h z.2)) {s0 : bb_O} {x1 : Int32} {x2 : Int32} {y0 : Int32} (hf : F_X5_digit_18 s0 x1 x2 y0 = some z) : bb_Z X 4 (wX5 X.cs h s0) 18 [(0, .ref (h 0)), (1, .int x1), (2, .int x2)] [.int y0] := by
  refine z_istore_n (pc := 18) (i := 3) (lv' := [(3, .int y0), (0, .ref (h 0)), (1, .int x1), (2, .int x2)]) C dX5_digit_18 rfl (by decide) rfl ?_
  refine z_aload_n (pc := 19) (i := 0) C 1 dX5_digit_19 rfl rfl ?_
  refine z_iload_n (pc := 20) (i := 3) C 0 dX5_digit_20 rfl rfl ?_
  refine z_i2l (pc := 21) C dX5_digit_21 ?_
  refine z_iload_n (pc := 22) (i := 1) C 2 dX5_digit_22 rfl rfl ?_
  refine z_i2l (pc := 23) C dX5_digit_23 ?_
  refine z_iload_n (pc := 24) (i := 2) C 3 dX5_digit_24 rfl rfl ?_
  refine z_i2l (pc := 25) C dX5_digit_25 ?_
  obtain ⟨q1, hq1, hf⟩ := bb_b_some hf
  refine z_callSi (pc := 26) (As := [.long (y0.toInt64), .long (x1.toInt64), .long (x2.toInt64)]) (rest := [.ref (h 0)]) C (hR.le (by decide)) (c_X5_in hq1) (bb_cut_none _) bv_X5_in bm_X5_49 rfl rfl (Nat.le_of_ble_eq_true rfl) dX5_digit_26 ?_
  obtain ⟨q2, hq2, hf⟩ := bb_b_some hf
  refine z_callVv (pc := 29) (ci := 5) (q0 := 0) (As := [.int q1]) (rest := []) (ws' := wX5 X.cs h q2) C (hR.le (by decide)) (c_X5_must h hq2) (bb_cut_self _ _) bv_X5_must bm_X5_131 rfl rfl rfl rfl (Nat.le_of_ble_eq_true rfl) dX5_digit_29 ?_
  refine z_iload_n (pc := 32) (i := 3) C 0 dX5_digit_32 rfl rfl ?_
  obtain rfl := Option.some.inj hf
  exact z_iret (pc := 33) C hr R dX5_digit_33
noncomputable def F_X5_digit_0 (s0 : bb_O) (x1 : Int32) (x2 : Int32) : Option (Int32 × bb_O) := if (s0.1 6) = 0 then ((F_X5_here_e s0).bind (fun q2 => F_X5_digit_18 q2.2 x1 x2 (q2.1 - ((48 : Int32))))) else (F_X5_digit_18 s0 x1 x2 ((-1 : Int32)))
set_option maxHeartbeats 4000000 in
set_option maxRecDepth 100000 in
theorem B_X5_digit_0 {X : bb_X} (C : bb_C X RX5 cX5_digit 4) (hR : bb_r X 2) (hr : X.meth.sig.returnType = (some .int)) (h : Nat → Nat) {z : (Int32 × bb_O)} (R : bb_R X (some (.int z.1)) (wX5 X.cs h z.2)) {s0 : bb_O} {x1 : Int32} {x2 : Int32} (hf : F_X5_digit_0 s0 x1 x2 = some z) : bb_Z X 4 (wX5 X.cs h s0) 0 [(0, .ref (h 0)), (1, .int x1), (2, .int x2)] [] := by
  refine z_aload_n (pc := 0) (i := 0) C 0 dX5_digit_0 rfl rfl ?_
  refine z_get (pc := 1) (ci := 5) C (.int (s0.1 6)) bi_X5 rfl 0 6 (by decide) rfl bf_X5_124 rfl rfl dX5_digit_1 ?_
  refine z_if_eq (pc := 4) C 11 dX5_digit_4 (by decide) (fun hc1 => ?_) (fun hc1 => ?_)
  · have hf := bb_t hf hc1
    refine z_aload_n (pc := 11) (i := 0) C 0 dX5_digit_11 rfl rfl ?_
    obtain ⟨q2, hq2, hf⟩ := bb_b_some hf
    refine z_callVi (pc := 12) (ci := 5) (q0 := 0) (As := []) (rest := []) (ws' := wX5 X.cs h q2.2) C (hR.le (by decide)) (c_X5_here h hq2) (bb_cut_self _ _) bv_X5_here bm_X5_128 rfl rfl rfl rfl (Nat.le_of_ble_eq_true rfl) dX5_digit_12 ?_
    refine z_bipush (pc := 15) C (48 : Int32) dX5_digit_15 (by decide) ?_
    refine z_isub (pc := 17) C dX5_digit_17 ?_
    exact B_X5_digit_18 C hR hr h R  hf
  · have hf := bb_e hf hc1
    refine z_iconst (pc := 7) C (-1 : Int32) dX5_digit_7 (by decide) ?_
    refine z_goto (pc := 8) C 18 dX5_digit_8 (by decide) ?_
    exact B_X5_digit_18 C hR hr h R  hf
theorem c_X5_digit {l : Launch} {D : va_G} {cs : Nat → ClassId} (h : Nat → Nat) {s0 : bb_O} {x1 : Int32} {x2 : Int32} {z : (Int32 × bb_O)} (hf : F_X5_digit_0 s0 x1 x2 = some z) : bb_M l yX5_digit cX5_digit 4 (some .int) 2 D cs [.ref (h 0), .int x1, .int x2] (some (.int z.1)) (wX5 cs h s0) (wX5 cs h z.2) := bb_mg (by decide) rfl (Nat.le_of_ble_eq_true rfl) rfl (fun X hl hD hcs C hR hr R => by
  subst hl
  subst hD
  subst hcs
  exact B_X5_digit_0 C hR hr h R hf)
/-! X5_sign: writes, level 2 -/
noncomputable def F_X5_sign_21 (s0 : bb_O) (y0 : Int32) : Option (bb_O) := (F_X5_must_0 s0 y0).bind (fun q1 => some q1)
set_option maxHeartbeats 4000000 in
set_option maxRecDepth 100000 in
theorem B_X5_sign_21 {X : bb_X} (C : bb_C X RX5 cX5_sign 2) (hR : bb_r X 2) (hr : X.meth.sig.returnType = none) (h : Nat → Nat) {z : (bb_O)} (R : bb_R X none (wX5 X.cs h z)) {s0 : bb_O} {y0 : Int32} (hf : F_X5_sign_21 s0 y0 = some z) : bb_Z X 2 (wX5 X.cs h s0) 21 [] [.int y0, .ref (h 0)] := by
  obtain ⟨q1, hq1, hf⟩ := bb_b_some hf
  refine z_callVv (pc := 21) (ci := 5) (q0 := 0) (As := [.int y0]) (rest := []) (ws' := wX5 X.cs h q1) C (hR.le (by decide)) (c_X5_must h hq1) (bb_cut_self _ _) bv_X5_must bm_X5_131 rfl rfl rfl rfl (Nat.le_of_ble_eq_true rfl) dX5_sign_21 ?_
  obtain rfl := Option.some.inj hf
  exact z_vret (pc := 24) C hr R dX5_sign_24
noncomputable def F_X5_sign_20 (s0 : bb_O) : Option (bb_O) := F_X5_sign_21 s0 ((0 : Int32))
set_option maxHeartbeats 4000000 in
set_option maxRecDepth 100000 in
theorem B_X5_sign_20 {X : bb_X} (C : bb_C X RX5 cX5_sign 2) (hR : bb_r X 2) (hr : X.meth.sig.returnType = none) (h : Nat → Nat) {z : (bb_O)} (R : bb_R X none (wX5 X.cs h z)) {s0 : bb_O} (hf : F_X5_sign_20 s0 = some z) : bb_Z X 2 (wX5 X.cs h s0) 20 [] [.ref (h 0)] := by
  refine z_iconst (pc := 20) C (0 : Int32) dX5_sign_20 (by decide) ?_
  exact B_X5_sign_21 C hR hr h R  hf
noncomputable def F_X5_sign_0 (s0 : bb_O) (x1 : Int32) : Option (bb_O) := if (s0.1 6) = 0 then ((F_X5_here_e s0).bind (fun q2 => if q2.1 = x1 then (F_X5_sign_21 q2.2 ((1 : Int32))) else (F_X5_sign_20 q2.2))) else (F_X5_sign_20 s0)
set_option maxHeartbeats 4000000 in
set_option maxRecDepth 100000 in
theorem B_X5_sign_0 {X : bb_X} (C : bb_C X RX5 cX5_sign 2) (hR : bb_r X 2) (hr : X.meth.sig.returnType = none) (h : Nat → Nat) {z : (bb_O)} (R : bb_R X none (wX5 X.cs h z)) {s0 : bb_O} {x1 : Int32} (hf : F_X5_sign_0 s0 x1 = some z) : bb_Z X 2 (wX5 X.cs h s0) 0 [(0, .ref (h 0)), (1, .int x1)] [] := by
  refine z_aload_n (pc := 0) (i := 0) C 0 dX5_sign_0 rfl rfl ?_
  refine z_aload_n (pc := 1) (i := 0) C 0 dX5_sign_1 rfl rfl ?_
  refine z_get (pc := 2) (ci := 5) C (.int (s0.1 6)) bi_X5 rfl 0 6 (by decide) rfl bf_X5_124 rfl rfl dX5_sign_2 ?_
  refine z_if_ne (pc := 5) C 20 dX5_sign_5 (by decide) (fun hc1 => ?_) (fun hc1 => ?_)
  · have hf := bb_e hf hc1
    refine z_lv [] rfl ?_
    exact B_X5_sign_20 C hR hr h R  hf
  · have hf := bb_t hf hc1
    refine z_aload_n (pc := 8) (i := 0) C 0 dX5_sign_8 rfl rfl ?_
    obtain ⟨q2, hq2, hf⟩ := bb_b_some hf
    refine z_callVi (pc := 9) (ci := 5) (q0 := 0) (As := []) (rest := [.ref (h 0)]) (ws' := wX5 X.cs h q2.2) C (hR.le (by decide)) (c_X5_here h hq2) (bb_cut_self _ _) bv_X5_here bm_X5_128 rfl rfl rfl rfl (Nat.le_of_ble_eq_true rfl) dX5_sign_9 ?_
    refine z_iload_n (pc := 12) (i := 1) C 1 dX5_sign_12 rfl rfl ?_
    refine z_icmp_ne (pc := 13) C 20 dX5_sign_13 (by decide) (fun hc3 => ?_) (fun hc3 => ?_)
    · have hf := bb_e hf hc3
      refine z_lv [] rfl ?_
      exact B_X5_sign_20 C hR hr h R  hf
    · have hf := bb_t hf hc3
      refine z_iconst (pc := 16) C (1 : Int32) dX5_sign_16 (by decide) ?_
      refine z_goto (pc := 17) C 21 dX5_sign_17 (by decide) ?_
      refine z_lv [] rfl ?_
      exact B_X5_sign_21 C hR hr h R  hf
theorem c_X5_sign {l : Launch} {D : va_G} {cs : Nat → ClassId} (h : Nat → Nat) {s0 : bb_O} {x1 : Int32} {z : (bb_O)} (hf : F_X5_sign_0 s0 x1 = some z) : bb_M l yX5_sign cX5_sign 2 none 2 D cs [.ref (h 0), .int x1] none (wX5 cs h s0) (wX5 cs h z) := bb_mg (by decide) rfl (Nat.le_of_ble_eq_true rfl) rfl (fun X hl hD hcs C hR hr R => by
  subst hl
  subst hD
  subst hcs
  exact B_X5_sign_0 C hR hr h R hf)
/-! X5_readFace: writes, level 2 -/
noncomputable def F_X5_readFace_67 (s0 : bb_O) (x1 : Int32) : Option (Int32 × bb_O) := some (x1, s0)
set_option maxHeartbeats 4000000 in
set_option maxRecDepth 100000 in
theorem B_X5_readFace_67 {X : bb_X} (C : bb_C X RX5 cX5_readFace 3) (hR : bb_r X 2) (hr : X.meth.sig.returnType = (some .int)) (h : Nat → Nat) {z : (Int32 × bb_O)} (R : bb_R X (some (.int z.1)) (wX5 X.cs h z.2)) {s0 : bb_O} {x1 : Int32} (hf : F_X5_readFace_67 s0 x1 = some z) : bb_Z X 3 (wX5 X.cs h s0) 67 [(1, .int x1)] [] := by
  refine z_iload_n (pc := 67) (i := 1) C 0 dX5_readFace_67 rfl rfl ?_
  obtain rfl := Option.some.inj hf
  exact z_iret (pc := 68) C hr R dX5_readFace_68
noncomputable def F_X5_readFace_64 (k21 : bb_O → Int32 → Int32 → Option (Int32 × bb_O)) (s0 : bb_O) (x1 : Int32) (x2 : Int32) : Option (Int32 × bb_O) := k21 s0 x1 x2
set_option maxHeartbeats 4000000 in
set_option maxRecDepth 100000 in
theorem B_X5_readFace_64 {X : bb_X} (C : bb_C X RX5 cX5_readFace 3) (hR : bb_r X 2) (hr : X.meth.sig.returnType = (some .int)) (h : Nat → Nat) {z : (Int32 × bb_O)} (R : bb_R X (some (.int z.1)) (wX5 X.cs h z.2)) {k21 : bb_O → Int32 → Int32 → Option (Int32 × bb_O)} (hk21 : ∀ (s0 : bb_O) (x1 : Int32) (x2 : Int32), k21 s0 x1 x2 = some z → bb_Z X 3 (wX5 X.cs h s0) 21 [(0, .ref (h 0)), (1, .int x1), (2, .int x2)] []) {s0 : bb_O} {x1 : Int32} {x2 : Int32} (hf : F_X5_readFace_64 k21 s0 x1 x2 = some z) : bb_Z X 3 (wX5 X.cs h s0) 64 [(0, .ref (h 0)), (1, .int x1), (2, .int x2)] [] := by
  refine z_goto (pc := 64) C 21 dX5_readFace_64 (by decide) ?_
  exact hk21 _ _ _ hf
noncomputable def F_X5_readFace_56 (k21 : bb_O → Int32 → Int32 → Option (Int32 × bb_O)) (s0 : bb_O) (x1 : Int32) : Option (Int32 × bb_O) := (F_X5_here_e s0).bind (fun q1 => F_X5_readFace_64 k21 q1.2 x1 (q1.1 - ((97 : Int32))))
set_option maxHeartbeats 4000000 in
set_option maxRecDepth 100000 in
theorem B_X5_readFace_56 {X : bb_X} (C : bb_C X RX5 cX5_readFace 3) (hR : bb_r X 2) (hr : X.meth.sig.returnType = (some .int)) (h : Nat → Nat) {z : (Int32 × bb_O)} (R : bb_R X (some (.int z.1)) (wX5 X.cs h z.2)) {k21 : bb_O → Int32 → Int32 → Option (Int32 × bb_O)} (hk21 : ∀ (s0 : bb_O) (x1 : Int32) (x2 : Int32), k21 s0 x1 x2 = some z → bb_Z X 3 (wX5 X.cs h s0) 21 [(0, .ref (h 0)), (1, .int x1), (2, .int x2)] []) {s0 : bb_O} {x1 : Int32} (hf : F_X5_readFace_56 k21 s0 x1 = some z) : bb_Z X 3 (wX5 X.cs h s0) 56 [(0, .ref (h 0)), (1, .int x1)] [] := by
  refine z_aload_n (pc := 56) (i := 0) C 0 dX5_readFace_56 rfl rfl ?_
  obtain ⟨q1, hq1, hf⟩ := bb_b_some hf
  refine z_callVi (pc := 57) (ci := 5) (q0 := 0) (As := []) (rest := []) (ws' := wX5 X.cs h q1.2) C (hR.le (by decide)) (c_X5_here h hq1) (bb_cut_self _ _) bv_X5_here bm_X5_128 rfl rfl rfl rfl (Nat.le_of_ble_eq_true rfl) dX5_readFace_57 ?_
  refine z_bipush (pc := 60) C (97 : Int32) dX5_readFace_60 (by decide) ?_
  refine z_isub (pc := 62) C dX5_readFace_62 ?_
  refine z_istore_n (pc := 63) (i := 2) (lv' := [(2, .int (q1.1 - ((97 : Int32)))), (0, .ref (h 0)), (1, .int x1)]) C dX5_readFace_63 rfl (by decide) rfl ?_
  refine z_lv [1, 2, 0] rfl ?_
  exact B_X5_readFace_64 C hR hr h R hk21 hf
noncomputable def G_X5_readFace_21 (k21 : bb_O → Int32 → Int32 → Option (Int32 × bb_O)) (s0 : bb_O) (x1 : Int32) (x2 : Int32) : Option (Int32 × bb_O) := (F_X5_in_0 (x2.toInt64) ((0 : Int64)) ((5 : Int64))).bind (fun q1 => if q1 = 0 then (F_X5_readFace_67 s0 x1) else (if (((1 : Int32)) <<< (x2 &&& 31)) ≤ x1 then (F_X5_readFace_67 s0 x1) else (F_X5_readFace_56 k21 (bb_sf s0 5 ((s0.1 5) + ((1 : Int32)))) (x1 ||| (((1 : Int32)) <<< (x2 &&& 31))))))
noncomputable def F_X5_readFace_21  : Nat → bb_O → Int32 → Int32 → Option (Int32 × bb_O)
  | 0, _, _, _ => none
  | n + 1, s0, x1, x2 => G_X5_readFace_21  (F_X5_readFace_21  n) s0 x1 x2
set_option maxHeartbeats 4000000 in
set_option maxRecDepth 100000 in
theorem A_X5_readFace_21 {X : bb_X} (C : bb_C X RX5 cX5_readFace 3) (hR : bb_r X 2) (hr : X.meth.sig.returnType = (some .int)) (h : Nat → Nat) {z : (Int32 × bb_O)} (R : bb_R X (some (.int z.1)) (wX5 X.cs h z.2)) {k21 : bb_O → Int32 → Int32 → Option (Int32 × bb_O)} (hk21 : ∀ (s0 : bb_O) (x1 : Int32) (x2 : Int32), k21 s0 x1 x2 = some z → bb_Z X 3 (wX5 X.cs h s0) 21 [(0, .ref (h 0)), (1, .int x1), (2, .int x2)] []) {s0 : bb_O} {x1 : Int32} {x2 : Int32} (hf : G_X5_readFace_21 k21 s0 x1 x2 = some z) : bb_Z X 3 (wX5 X.cs h s0) 21 [(0, .ref (h 0)), (1, .int x1), (2, .int x2)] [] := by
  refine z_iload_n (pc := 21) (i := 2) C 2 dX5_readFace_21 rfl rfl ?_
  refine z_i2l (pc := 22) C dX5_readFace_22 ?_
  refine z_lconst (pc := 23) C (0 : Int64) dX5_readFace_23 (by decide) ?_
  refine z_ldc2_w (pc := 24) C bk_X5_135 dX5_readFace_24 ?_
  obtain ⟨q1, hq1, hf⟩ := bb_b_some hf
  refine z_callSi (pc := 27) (As := [.long (x2.toInt64), .long ((0 : Int64)), .long ((5 : Int64))]) (rest := []) C (hR.le (by decide)) (c_X5_in hq1) (bb_cut_none _) bv_X5_in bm_X5_49 rfl rfl (Nat.le_of_ble_eq_true rfl) dX5_readFace_27 ?_
  refine z_if_eq (pc := 30) C 67 dX5_readFace_30 (by decide) (fun hc2 => ?_) (fun hc2 => ?_)
  · have hf := bb_t hf hc2
    refine z_lv [1] rfl ?_
    exact B_X5_readFace_67 C hR hr h R  hf
  · have hf := bb_e hf hc2
    refine z_iconst (pc := 33) C (1 : Int32) dX5_readFace_33 (by decide) ?_
    refine z_iload_n (pc := 34) (i := 2) C 2 dX5_readFace_34 rfl rfl ?_
    refine z_ishl (pc := 35) C dX5_readFace_35 ?_
    refine z_iload_n (pc := 36) (i := 1) C 1 dX5_readFace_36 rfl rfl ?_
    refine z_icmp_le (pc := 37) C 67 dX5_readFace_37 (by decide) (fun hc3 => ?_) (fun hc3 => ?_)
    · have hf := bb_t hf hc3
      refine z_lv [1] rfl ?_
      exact B_X5_readFace_67 C hR hr h R  hf
    · have hf := bb_e hf hc3
      refine z_iload_n (pc := 40) (i := 1) C 1 dX5_readFace_40 rfl rfl ?_
      refine z_iconst (pc := 41) C (1 : Int32) dX5_readFace_41 (by decide) ?_
      refine z_iload_n (pc := 42) (i := 2) C 2 dX5_readFace_42 rfl rfl ?_
      refine z_ishl (pc := 43) C dX5_readFace_43 ?_
      refine z_ior (pc := 44) C dX5_readFace_44 ?_
      refine z_istore_n (pc := 45) (i := 1) (lv' := [(1, .int (x1 ||| (((1 : Int32)) <<< (x2 &&& 31)))), (0, .ref (h 0)), (2, .int x2)]) C dX5_readFace_45 rfl (by decide) rfl ?_
      refine z_aload_n (pc := 46) (i := 0) C 1 dX5_readFace_46 rfl rfl ?_
      refine z_dup (pc := 47) C dX5_readFace_47 rfl ?_
      refine z_get (pc := 48) (ci := 5) C (.int (s0.1 5)) bi_X5 rfl 0 5 (by decide) rfl bf_X5_121 rfl rfl dX5_readFace_48 ?_
      refine z_iconst (pc := 51) C (1 : Int32) dX5_readFace_51 (by decide) ?_
      refine z_iadd (pc := 52) C dX5_readFace_52 ?_
      refine z_put (pc := 53) (ci := 5) (ty := .int) (ws' := wX5 X.cs h (bb_sf s0 5 ((s0.1 5) + ((1 : Int32))))) C bi_X5 tyX5_ok nmX5 rfl 0 5 (by decide) rfl bf_X5_121 rfl rfl rfl rfl rfl (Nat.le_of_ble_eq_true rfl) rfl dX5_readFace_53 ?_
      refine z_lv [1, 0] rfl ?_
      exact B_X5_readFace_56 C hR hr h R hk21 hf
theorem B_X5_readFace_21 {X : bb_X} (C : bb_C X RX5 cX5_readFace 3) (hR : bb_r X 2) (hr : X.meth.sig.returnType = (some .int)) (h : Nat → Nat) {z : (Int32 × bb_O)} (R : bb_R X (some (.int z.1)) (wX5 X.cs h z.2)) : ∀ (n : Nat) (s0 : bb_O) (x1 : Int32) (x2 : Int32), F_X5_readFace_21  n s0 x1 x2 = some z → bb_Z X 3 (wX5 X.cs h s0) 21 [(0, .ref (h 0)), (1, .int x1), (2, .int x2)] [] := by
  intro n
  induction n with
  | zero =>
    intro s0 x1 x2 hf
    cases hf
  | succ n ih =>
    intro s0 x1 x2 hf
    exact A_X5_readFace_21 C hR hr h R  ih hf
noncomputable def F_X5_readFace_20 (s0 : bb_O) (x1 : Int32) (y0 : Int32) : Option (Int32 × bb_O) := F_X5_readFace_21 bb_N s0 x1 y0
set_option maxHeartbeats 4000000 in
set_option maxRecDepth 100000 in
theorem B_X5_readFace_20 {X : bb_X} (C : bb_C X RX5 cX5_readFace 3) (hR : bb_r X 2) (hr : X.meth.sig.returnType = (some .int)) (h : Nat → Nat) {z : (Int32 × bb_O)} (R : bb_R X (some (.int z.1)) (wX5 X.cs h z.2)) {s0 : bb_O} {x1 : Int32} {y0 : Int32} (hf : F_X5_readFace_20 s0 x1 y0 = some z) : bb_Z X 3 (wX5 X.cs h s0) 20 [(0, .ref (h 0)), (1, .int x1)] [.int y0] := by
  refine z_istore_n (pc := 20) (i := 2) (lv' := [(2, .int y0), (0, .ref (h 0)), (1, .int x1)]) C dX5_readFace_20 rfl (by decide) rfl ?_
  refine z_lv [1, 2, 0] rfl ?_
  exact B_X5_readFace_21 C hR hr h R  bb_N _ _ _ hf
noncomputable def F_X5_readFace_0 (s0 : bb_O) : Option (Int32 × bb_O) := if (s0.1 6) = 0 then ((F_X5_here_e s0).bind (fun q2 => F_X5_readFace_20 q2.2 ((0 : Int32)) (q2.1 - ((97 : Int32))))) else (F_X5_readFace_20 s0 ((0 : Int32)) ((-1 : Int32)))
set_option maxHeartbeats 4000000 in
set_option maxRecDepth 100000 in
theorem B_X5_readFace_0 {X : bb_X} (C : bb_C X RX5 cX5_readFace 3) (hR : bb_r X 2) (hr : X.meth.sig.returnType = (some .int)) (h : Nat → Nat) {z : (Int32 × bb_O)} (R : bb_R X (some (.int z.1)) (wX5 X.cs h z.2)) {s0 : bb_O} (hf : F_X5_readFace_0 s0 = some z) : bb_Z X 3 (wX5 X.cs h s0) 0 [(0, .ref (h 0))] [] := by
  refine z_iconst (pc := 0) C (0 : Int32) dX5_readFace_0 (by decide) ?_
  refine z_istore_n (pc := 1) (i := 1) (lv' := [(1, .int ((0 : Int32))), (0, .ref (h 0))]) C dX5_readFace_1 rfl (by decide) rfl ?_
  refine z_aload_n (pc := 2) (i := 0) C 1 dX5_readFace_2 rfl rfl ?_
  refine z_get (pc := 3) (ci := 5) C (.int (s0.1 6)) bi_X5 rfl 0 6 (by decide) rfl bf_X5_124 rfl rfl dX5_readFace_3 ?_
  refine z_if_eq (pc := 6) C 13 dX5_readFace_6 (by decide) (fun hc1 => ?_) (fun hc1 => ?_)
  · have hf := bb_t hf hc1
    refine z_aload_n (pc := 13) (i := 0) C 1 dX5_readFace_13 rfl rfl ?_
    obtain ⟨q2, hq2, hf⟩ := bb_b_some hf
    refine z_callVi (pc := 14) (ci := 5) (q0 := 0) (As := []) (rest := []) (ws' := wX5 X.cs h q2.2) C (hR.le (by decide)) (c_X5_here h hq2) (bb_cut_self _ _) bv_X5_here bm_X5_128 rfl rfl rfl rfl (Nat.le_of_ble_eq_true rfl) dX5_readFace_14 ?_
    refine z_bipush (pc := 17) C (97 : Int32) dX5_readFace_17 (by decide) ?_
    refine z_isub (pc := 19) C dX5_readFace_19 ?_
    refine z_lv [1, 0] rfl ?_
    exact B_X5_readFace_20 C hR hr h R  hf
  · have hf := bb_e hf hc1
    refine z_iconst (pc := 9) C (-1 : Int32) dX5_readFace_9 (by decide) ?_
    refine z_goto (pc := 10) C 20 dX5_readFace_10 (by decide) ?_
    refine z_lv [1, 0] rfl ?_
    exact B_X5_readFace_20 C hR hr h R  hf
theorem c_X5_readFace {l : Launch} {D : va_G} {cs : Nat → ClassId} (h : Nat → Nat) {s0 : bb_O} {z : (Int32 × bb_O)} (hf : F_X5_readFace_0 s0 = some z) : bb_M l yX5_readFace cX5_readFace 3 (some .int) 2 D cs [.ref (h 0)] (some (.int z.1)) (wX5 cs h s0) (wX5 cs h z.2) := bb_mg (by decide) rfl (Nat.le_of_ble_eq_true rfl) rfl (fun X hl hD hcs C hR hr R => by
  subst hl
  subst hD
  subst hcs
  exact B_X5_readFace_0 C hR hr h R hf)
/-! X5_readPeople: writes, level 3 -/
noncomputable def F_X5_readPeople_229 (s0 : bb_O) (x3 : Int32) : Option (Int32 × bb_O) := some (x3, s0)
set_option maxHeartbeats 4000000 in
set_option maxRecDepth 100000 in
theorem B_X5_readPeople_229 {X : bb_X} (C : bb_C X RX5 cX5_readPeople 10) (hR : bb_r X 3) (hr : X.meth.sig.returnType = (some .int)) (h : Nat → Nat) {z : (Int32 × bb_O)} (R : bb_R X (some (.int z.1)) (wX5 X.cs h z.2)) {s0 : bb_O} {x3 : Int32} (hf : F_X5_readPeople_229 s0 x3 = some z) : bb_Z X 10 (wX5 X.cs h s0) 229 [(3, .int x3)] [] := by
  refine z_iload_n (pc := 229) (i := 3) C 0 dX5_readPeople_229 rfl rfl ?_
  obtain rfl := Option.some.inj hf
  exact z_iret (pc := 230) C hr R dX5_readPeople_230
noncomputable def F_X5_readPeople_223 (k2 : bb_O → Int32 → Int32 → Int32 → Option (Int32 × bb_O)) (s0 : bb_O) (x1 : Int32) (x2 : Int32) (x3 : Int32) : Option (Int32 × bb_O) := k2 s0 x1 x2 (x3 + 1)
set_option maxHeartbeats 4000000 in
set_option maxRecDepth 100000 in
theorem B_X5_readPeople_223 {X : bb_X} (C : bb_C X RX5 cX5_readPeople 10) (hR : bb_r X 3) (hr : X.meth.sig.returnType = (some .int)) (h : Nat → Nat) {z : (Int32 × bb_O)} (R : bb_R X (some (.int z.1)) (wX5 X.cs h z.2)) {k2 : bb_O → Int32 → Int32 → Int32 → Option (Int32 × bb_O)} (hk2 : ∀ (s0 : bb_O) (x1 : Int32) (x2 : Int32) (x3 : Int32), k2 s0 x1 x2 x3 = some z → bb_Z X 10 (wX5 X.cs h s0) 2 [(0, .ref (h 0)), (1, .int x1), (2, .int x2), (3, .int x3)] []) {s0 : bb_O} {x1 : Int32} {x2 : Int32} {x3 : Int32} (hf : F_X5_readPeople_223 k2 s0 x1 x2 x3 = some z) : bb_Z X 10 (wX5 X.cs h s0) 223 [(0, .ref (h 0)), (1, .int x1), (2, .int x2), (3, .int x3)] [] := by
  refine z_iinc (pc := 223) (lv' := [(3, .int (x3 + 1)), (0, .ref (h 0)), (1, .int x1), (2, .int x2)]) C (x3 + 1) 3 dX5_readPeople_223 rfl rfl (by decide) rfl ?_
  refine z_goto (pc := 226) C 2 dX5_readPeople_226 (by decide) ?_
  refine z_lv [1, 2, 3, 0] rfl ?_
  exact hk2 _ _ _ _ hf
noncomputable def F_X5_readPeople_211 (k2 : bb_O → Int32 → Int32 → Int32 → Option (Int32 × bb_O)) (s0 : bb_O) (x1 : Int32) (x2 : Int32) (x3 : Int32) (x9 : Int32) : Option (Int32 × bb_O) := bb_g (vp_in ((((4 : Int32)) * x3) + ((3 : Int32))) 24) (F_X5_readPeople_223 k2 (bb_sA s0 7 (upd (s0.2.1 7) ((((4 : Int32)) * x3) + ((3 : Int32))).toNatClampNeg x9)) x1 x2 x3)
set_option maxHeartbeats 4000000 in
set_option maxRecDepth 100000 in
theorem B_X5_readPeople_211 {X : bb_X} (C : bb_C X RX5 cX5_readPeople 10) (hR : bb_r X 3) (hr : X.meth.sig.returnType = (some .int)) (h : Nat → Nat) {z : (Int32 × bb_O)} (R : bb_R X (some (.int z.1)) (wX5 X.cs h z.2)) {k2 : bb_O → Int32 → Int32 → Int32 → Option (Int32 × bb_O)} (hk2 : ∀ (s0 : bb_O) (x1 : Int32) (x2 : Int32) (x3 : Int32), k2 s0 x1 x2 x3 = some z → bb_Z X 10 (wX5 X.cs h s0) 2 [(0, .ref (h 0)), (1, .int x1), (2, .int x2), (3, .int x3)] []) {s0 : bb_O} {x1 : Int32} {x2 : Int32} {x3 : Int32} {x9 : Int32} (hf : F_X5_readPeople_211 k2 s0 x1 x2 x3 x9 = some z) : bb_Z X 10 (wX5 X.cs h s0) 211 [(0, .ref (h 0)), (1, .int x1), (2, .int x2), (3, .int x3), (9, .int x9)] [] := by
  refine z_aload_n (pc := 211) (i := 0) C 0 dX5_readPeople_211 rfl rfl ?_
  refine z_get (pc := 212) (ci := 5) C (.ref (h 8)) bi_X5 rfl 0 7 (by decide) rfl bf_X5_16 rfl rfl dX5_readPeople_212 ?_
  refine z_iconst (pc := 215) C (4 : Int32) dX5_readPeople_215 (by decide) ?_
  refine z_iload_n (pc := 216) (i := 3) C 3 dX5_readPeople_216 rfl rfl ?_
  refine z_imul (pc := 217) C dX5_readPeople_217 ?_
  refine z_iconst (pc := 218) C (3 : Int32) dX5_readPeople_218 (by decide) ?_
  refine z_iadd (pc := 219) C dX5_readPeople_219 ?_
  refine z_iload (pc := 220) C 4 dX5_readPeople_220 rfl ?_
  obtain ⟨hv1, hf⟩ := bb_g_some hf
  refine z_iast (pc := 222) (ws' := wX5 X.cs h (bb_sA s0 7 (upd (s0.2.1 7) ((((4 : Int32)) * x3) + ((3 : Int32))).toNatClampNeg x9))) C 3 0 (((((4 : Int32)) * x3) + ((3 : Int32))).toNatClampNeg) rfl rfl hv1 rfl rfl dX5_readPeople_222 ?_
  refine z_lv [0, 1, 2, 3] rfl ?_
  exact B_X5_readPeople_223 C hR hr h R hk2 hf
noncomputable def F_X5_readPeople_199 (k2 : bb_O → Int32 → Int32 → Int32 → Option (Int32 × bb_O)) (s0 : bb_O) (x1 : Int32) (x2 : Int32) (x3 : Int32) (x8 : Int32) (x9 : Int32) : Option (Int32 × bb_O) := bb_g (vp_in ((((4 : Int32)) * x3) + ((2 : Int32))) 24) (F_X5_readPeople_211 k2 (bb_sA s0 7 (upd (s0.2.1 7) ((((4 : Int32)) * x3) + ((2 : Int32))).toNatClampNeg x8)) x1 x2 x3 x9)
set_option maxHeartbeats 4000000 in
set_option maxRecDepth 100000 in
theorem B_X5_readPeople_199 {X : bb_X} (C : bb_C X RX5 cX5_readPeople 10) (hR : bb_r X 3) (hr : X.meth.sig.returnType = (some .int)) (h : Nat → Nat) {z : (Int32 × bb_O)} (R : bb_R X (some (.int z.1)) (wX5 X.cs h z.2)) {k2 : bb_O → Int32 → Int32 → Int32 → Option (Int32 × bb_O)} (hk2 : ∀ (s0 : bb_O) (x1 : Int32) (x2 : Int32) (x3 : Int32), k2 s0 x1 x2 x3 = some z → bb_Z X 10 (wX5 X.cs h s0) 2 [(0, .ref (h 0)), (1, .int x1), (2, .int x2), (3, .int x3)] []) {s0 : bb_O} {x1 : Int32} {x2 : Int32} {x3 : Int32} {x8 : Int32} {x9 : Int32} (hf : F_X5_readPeople_199 k2 s0 x1 x2 x3 x8 x9 = some z) : bb_Z X 10 (wX5 X.cs h s0) 199 [(0, .ref (h 0)), (1, .int x1), (2, .int x2), (3, .int x3), (8, .int x8), (9, .int x9)] [] := by
  refine z_aload_n (pc := 199) (i := 0) C 0 dX5_readPeople_199 rfl rfl ?_
  refine z_get (pc := 200) (ci := 5) C (.ref (h 8)) bi_X5 rfl 0 7 (by decide) rfl bf_X5_16 rfl rfl dX5_readPeople_200 ?_
  refine z_iconst (pc := 203) C (4 : Int32) dX5_readPeople_203 (by decide) ?_
  refine z_iload_n (pc := 204) (i := 3) C 3 dX5_readPeople_204 rfl rfl ?_
  refine z_imul (pc := 205) C dX5_readPeople_205 ?_
  refine z_iconst (pc := 206) C (2 : Int32) dX5_readPeople_206 (by decide) ?_
  refine z_iadd (pc := 207) C dX5_readPeople_207 ?_
  refine z_iload (pc := 208) C 4 dX5_readPeople_208 rfl ?_
  obtain ⟨hv1, hf⟩ := bb_g_some hf
  refine z_iast (pc := 210) (ws' := wX5 X.cs h (bb_sA s0 7 (upd (s0.2.1 7) ((((4 : Int32)) * x3) + ((2 : Int32))).toNatClampNeg x8))) C 3 0 (((((4 : Int32)) * x3) + ((2 : Int32))).toNatClampNeg) rfl rfl hv1 rfl rfl dX5_readPeople_210 ?_
  refine z_lv [0, 1, 2, 3, 5] rfl ?_
  exact B_X5_readPeople_211 C hR hr h R hk2 hf
noncomputable def F_X5_readPeople_182 (k2 : bb_O → Int32 → Int32 → Int32 → Option (Int32 × bb_O)) (s0 : bb_O) (x1 : Int32) (x2 : Int32) (x3 : Int32) (x6 : Int32) (x7 : Int32) (x8 : Int32) (x9 : Int32) : Option (Int32 × bb_O) := bb_g (vp_in ((((4 : Int32)) * x3) + ((1 : Int32))) 24) (F_X5_readPeople_199 k2 (bb_sA s0 7 (upd (s0.2.1 7) ((((4 : Int32)) * x3) + ((1 : Int32))).toNatClampNeg ((x6 * x2) + x7))) x1 x2 x3 x8 x9)
set_option maxHeartbeats 4000000 in
set_option maxRecDepth 100000 in
theorem B_X5_readPeople_182 {X : bb_X} (C : bb_C X RX5 cX5_readPeople 10) (hR : bb_r X 3) (hr : X.meth.sig.returnType = (some .int)) (h : Nat → Nat) {z : (Int32 × bb_O)} (R : bb_R X (some (.int z.1)) (wX5 X.cs h z.2)) {k2 : bb_O → Int32 → Int32 → Int32 → Option (Int32 × bb_O)} (hk2 : ∀ (s0 : bb_O) (x1 : Int32) (x2 : Int32) (x3 : Int32), k2 s0 x1 x2 x3 = some z → bb_Z X 10 (wX5 X.cs h s0) 2 [(0, .ref (h 0)), (1, .int x1), (2, .int x2), (3, .int x3)] []) {s0 : bb_O} {x1 : Int32} {x2 : Int32} {x3 : Int32} {x6 : Int32} {x7 : Int32} {x8 : Int32} {x9 : Int32} (hf : F_X5_readPeople_182 k2 s0 x1 x2 x3 x6 x7 x8 x9 = some z) : bb_Z X 10 (wX5 X.cs h s0) 182 [(0, .ref (h 0)), (1, .int x1), (2, .int x2), (3, .int x3), (6, .int x6), (7, .int x7), (8, .int x8), (9, .int x9)] [] := by
  refine z_aload_n (pc := 182) (i := 0) C 0 dX5_readPeople_182 rfl rfl ?_
  refine z_get (pc := 183) (ci := 5) C (.ref (h 8)) bi_X5 rfl 0 7 (by decide) rfl bf_X5_16 rfl rfl dX5_readPeople_183 ?_
  refine z_iconst (pc := 186) C (4 : Int32) dX5_readPeople_186 (by decide) ?_
  refine z_iload_n (pc := 187) (i := 3) C 3 dX5_readPeople_187 rfl rfl ?_
  refine z_imul (pc := 188) C dX5_readPeople_188 ?_
  refine z_iconst (pc := 189) C (1 : Int32) dX5_readPeople_189 (by decide) ?_
  refine z_iadd (pc := 190) C dX5_readPeople_190 ?_
  refine z_iload (pc := 191) C 4 dX5_readPeople_191 rfl ?_
  refine z_iload_n (pc := 193) (i := 2) C 2 dX5_readPeople_193 rfl rfl ?_
  refine z_imul (pc := 194) C dX5_readPeople_194 ?_
  refine z_iload (pc := 195) C 5 dX5_readPeople_195 rfl ?_
  refine z_iadd (pc := 197) C dX5_readPeople_197 ?_
  obtain ⟨hv1, hf⟩ := bb_g_some hf
  refine z_iast (pc := 198) (ws' := wX5 X.cs h (bb_sA s0 7 (upd (s0.2.1 7) ((((4 : Int32)) * x3) + ((1 : Int32))).toNatClampNeg ((x6 * x2) + x7)))) C 3 0 (((((4 : Int32)) * x3) + ((1 : Int32))).toNatClampNeg) rfl rfl hv1 rfl rfl dX5_readPeople_198 ?_
  refine z_lv [0, 1, 2, 3, 6, 7] rfl ?_
  exact B_X5_readPeople_199 C hR hr h R hk2 hf
noncomputable def F_X5_readPeople_165 (k2 : bb_O → Int32 → Int32 → Int32 → Option (Int32 × bb_O)) (s0 : bb_O) (x1 : Int32) (x2 : Int32) (x3 : Int32) (x5 : Int32) (x6 : Int32) (x7 : Int32) (x8 : Int32) (x9 : Int32) : Option (Int32 × bb_O) := if (s0.1 6) = 0 then (bb_g (vp_in (((4 : Int32)) * x3) 24) (F_X5_readPeople_182 k2 (bb_sA s0 7 (upd (s0.2.1 7) (((4 : Int32)) * x3).toNatClampNeg x5)) x1 x2 x3 x6 x7 x8 x9)) else (F_X5_readPeople_223 k2 s0 x1 x2 x3)
set_option maxHeartbeats 4000000 in
set_option maxRecDepth 100000 in
theorem B_X5_readPeople_165 {X : bb_X} (C : bb_C X RX5 cX5_readPeople 10) (hR : bb_r X 3) (hr : X.meth.sig.returnType = (some .int)) (h : Nat → Nat) {z : (Int32 × bb_O)} (R : bb_R X (some (.int z.1)) (wX5 X.cs h z.2)) {k2 : bb_O → Int32 → Int32 → Int32 → Option (Int32 × bb_O)} (hk2 : ∀ (s0 : bb_O) (x1 : Int32) (x2 : Int32) (x3 : Int32), k2 s0 x1 x2 x3 = some z → bb_Z X 10 (wX5 X.cs h s0) 2 [(0, .ref (h 0)), (1, .int x1), (2, .int x2), (3, .int x3)] []) {s0 : bb_O} {x1 : Int32} {x2 : Int32} {x3 : Int32} {x5 : Int32} {x6 : Int32} {x7 : Int32} {x8 : Int32} {x9 : Int32} (hf : F_X5_readPeople_165 k2 s0 x1 x2 x3 x5 x6 x7 x8 x9 = some z) : bb_Z X 10 (wX5 X.cs h s0) 165 [(0, .ref (h 0)), (1, .int x1), (2, .int x2), (3, .int x3), (5, .int x5), (6, .int x6), (7, .int x7), (8, .int x8), (9, .int x9)] [] := by
  refine z_aload_n (pc := 165) (i := 0) C 0 dX5_readPeople_165 rfl rfl ?_
  refine z_get (pc := 166) (ci := 5) C (.int (s0.1 6)) bi_X5 rfl 0 6 (by decide) rfl bf_X5_124 rfl rfl dX5_readPeople_166 ?_
  refine z_if_ne (pc := 169) C 223 dX5_readPeople_169 (by decide) (fun hc1 => ?_) (fun hc1 => ?_)
  · have hf := bb_e hf hc1
    refine z_lv [0, 1, 2, 3] rfl ?_
    exact B_X5_readPeople_223 C hR hr h R hk2 hf
  · have hf := bb_t hf hc1
    refine z_aload_n (pc := 172) (i := 0) C 0 dX5_readPeople_172 rfl rfl ?_
    refine z_get (pc := 173) (ci := 5) C (.ref (h 8)) bi_X5 rfl 0 7 (by decide) rfl bf_X5_16 rfl rfl dX5_readPeople_173 ?_
    refine z_iconst (pc := 176) C (4 : Int32) dX5_readPeople_176 (by decide) ?_
    refine z_iload_n (pc := 177) (i := 3) C 3 dX5_readPeople_177 rfl rfl ?_
    refine z_imul (pc := 178) C dX5_readPeople_178 ?_
    refine z_iload (pc := 179) C 4 dX5_readPeople_179 rfl ?_
    obtain ⟨hv2, hf⟩ := bb_g_some hf
    refine z_iast (pc := 181) (ws' := wX5 X.cs h (bb_sA s0 7 (upd (s0.2.1 7) (((4 : Int32)) * x3).toNatClampNeg x5))) C 3 0 ((((4 : Int32)) * x3).toNatClampNeg) rfl rfl hv2 rfl rfl dX5_readPeople_181 ?_
    refine z_lv [0, 1, 2, 3, 5, 6, 7, 8] rfl ?_
    exact B_X5_readPeople_182 C hR hr h R hk2 hf
noncomputable def F_X5_readPeople_159 (k2 : bb_O → Int32 → Int32 → Int32 → Option (Int32 × bb_O)) (s0 : bb_O) (x1 : Int32) (x2 : Int32) (x3 : Int32) (x5 : Int32) (x6 : Int32) (x7 : Int32) (x8 : Int32) : Option (Int32 × bb_O) := (F_X5_readFace_0 s0).bind (fun q1 => F_X5_readPeople_165 k2 q1.2 x1 x2 x3 x5 x6 x7 x8 q1.1)
set_option maxHeartbeats 4000000 in
set_option maxRecDepth 100000 in
theorem B_X5_readPeople_159 {X : bb_X} (C : bb_C X RX5 cX5_readPeople 10) (hR : bb_r X 3) (hr : X.meth.sig.returnType = (some .int)) (h : Nat → Nat) {z : (Int32 × bb_O)} (R : bb_R X (some (.int z.1)) (wX5 X.cs h z.2)) {k2 : bb_O → Int32 → Int32 → Int32 → Option (Int32 × bb_O)} (hk2 : ∀ (s0 : bb_O) (x1 : Int32) (x2 : Int32) (x3 : Int32), k2 s0 x1 x2 x3 = some z → bb_Z X 10 (wX5 X.cs h s0) 2 [(0, .ref (h 0)), (1, .int x1), (2, .int x2), (3, .int x3)] []) {s0 : bb_O} {x1 : Int32} {x2 : Int32} {x3 : Int32} {x5 : Int32} {x6 : Int32} {x7 : Int32} {x8 : Int32} (hf : F_X5_readPeople_159 k2 s0 x1 x2 x3 x5 x6 x7 x8 = some z) : bb_Z X 10 (wX5 X.cs h s0) 159 [(0, .ref (h 0)), (1, .int x1), (2, .int x2), (3, .int x3), (5, .int x5), (6, .int x6), (7, .int x7), (8, .int x8)] [] := by
  refine z_aload_n (pc := 159) (i := 0) C 0 dX5_readPeople_159 rfl rfl ?_
  obtain ⟨q1, hq1, hf⟩ := bb_b_some hf
  refine z_callVi (pc := 160) (ci := 5) (q0 := 0) (As := []) (rest := []) (ws' := wX5 X.cs h q1.2) C (hR.le (by decide)) (c_X5_readFace h hq1) (bb_cut_self _ _) bv_X5_readFace bm_X5_140 rfl rfl rfl rfl (Nat.le_of_ble_eq_true rfl) dX5_readPeople_160 ?_
  refine z_istore (pc := 163) (lv' := [(9, .int q1.1), (0, .ref (h 0)), (1, .int x1), (2, .int x2), (3, .int x3), (5, .int x5), (6, .int x6), (7, .int x7), (8, .int x8)]) C dX5_readPeople_163 (by decide) rfl ?_
  refine z_lv [1, 2, 3, 4, 5, 6, 7, 8, 0] rfl ?_
  exact B_X5_readPeople_165 C hR hr h R hk2 hf
noncomputable def F_X5_readPeople_150 (k2 : bb_O → Int32 → Int32 → Int32 → Option (Int32 × bb_O)) (s0 : bb_O) (x1 : Int32) (x2 : Int32) (x3 : Int32) (x5 : Int32) (x6 : Int32) (x7 : Int32) : Option (Int32 × bb_O) := (F_X5_digit_0 s0 ((0 : Int32)) ((9 : Int32))).bind (fun q1 => F_X5_readPeople_159 k2 q1.2 x1 x2 x3 x5 x6 x7 q1.1)
set_option maxHeartbeats 4000000 in
set_option maxRecDepth 100000 in
theorem B_X5_readPeople_150 {X : bb_X} (C : bb_C X RX5 cX5_readPeople 10) (hR : bb_r X 3) (hr : X.meth.sig.returnType = (some .int)) (h : Nat → Nat) {z : (Int32 × bb_O)} (R : bb_R X (some (.int z.1)) (wX5 X.cs h z.2)) {k2 : bb_O → Int32 → Int32 → Int32 → Option (Int32 × bb_O)} (hk2 : ∀ (s0 : bb_O) (x1 : Int32) (x2 : Int32) (x3 : Int32), k2 s0 x1 x2 x3 = some z → bb_Z X 10 (wX5 X.cs h s0) 2 [(0, .ref (h 0)), (1, .int x1), (2, .int x2), (3, .int x3)] []) {s0 : bb_O} {x1 : Int32} {x2 : Int32} {x3 : Int32} {x5 : Int32} {x6 : Int32} {x7 : Int32} (hf : F_X5_readPeople_150 k2 s0 x1 x2 x3 x5 x6 x7 = some z) : bb_Z X 10 (wX5 X.cs h s0) 150 [(0, .ref (h 0)), (1, .int x1), (2, .int x2), (3, .int x3), (5, .int x5), (6, .int x6), (7, .int x7)] [] := by
  refine z_aload_n (pc := 150) (i := 0) C 0 dX5_readPeople_150 rfl rfl ?_
  refine z_iconst (pc := 151) C (0 : Int32) dX5_readPeople_151 (by decide) ?_
  refine z_bipush (pc := 152) C (9 : Int32) dX5_readPeople_152 (by decide) ?_
  obtain ⟨q1, hq1, hf⟩ := bb_b_some hf
  refine z_callVi (pc := 154) (ci := 5) (q0 := 0) (As := [.int ((0 : Int32)), .int ((9 : Int32))]) (rest := []) (ws' := wX5 X.cs h q1.2) C (hR.le (by decide)) (c_X5_digit h hq1) (bb_cut_self _ _) bv_X5_digit bm_X5_137 rfl rfl rfl rfl (Nat.le_of_ble_eq_true rfl) dX5_readPeople_154 ?_
  refine z_istore (pc := 157) (lv' := [(8, .int q1.1), (0, .ref (h 0)), (1, .int x1), (2, .int x2), (3, .int x3), (5, .int x5), (6, .int x6), (7, .int x7)]) C dX5_readPeople_157 (by decide) rfl ?_
  refine z_lv [1, 2, 3, 4, 5, 6, 7, 0] rfl ?_
  exact B_X5_readPeople_159 C hR hr h R hk2 hf
noncomputable def F_X5_readPeople_140 (k2 : bb_O → Int32 → Int32 → Int32 → Option (Int32 × bb_O)) (s0 : bb_O) (x1 : Int32) (x2 : Int32) (x3 : Int32) (x5 : Int32) (x6 : Int32) : Option (Int32 × bb_O) := (F_X5_digit_0 s0 ((0 : Int32)) (x2 - ((1 : Int32)))).bind (fun q1 => F_X5_readPeople_150 k2 q1.2 x1 x2 x3 x5 x6 q1.1)
set_option maxHeartbeats 4000000 in
set_option maxRecDepth 100000 in
theorem B_X5_readPeople_140 {X : bb_X} (C : bb_C X RX5 cX5_readPeople 10) (hR : bb_r X 3) (hr : X.meth.sig.returnType = (some .int)) (h : Nat → Nat) {z : (Int32 × bb_O)} (R : bb_R X (some (.int z.1)) (wX5 X.cs h z.2)) {k2 : bb_O → Int32 → Int32 → Int32 → Option (Int32 × bb_O)} (hk2 : ∀ (s0 : bb_O) (x1 : Int32) (x2 : Int32) (x3 : Int32), k2 s0 x1 x2 x3 = some z → bb_Z X 10 (wX5 X.cs h s0) 2 [(0, .ref (h 0)), (1, .int x1), (2, .int x2), (3, .int x3)] []) {s0 : bb_O} {x1 : Int32} {x2 : Int32} {x3 : Int32} {x5 : Int32} {x6 : Int32} (hf : F_X5_readPeople_140 k2 s0 x1 x2 x3 x5 x6 = some z) : bb_Z X 10 (wX5 X.cs h s0) 140 [(0, .ref (h 0)), (1, .int x1), (2, .int x2), (3, .int x3), (5, .int x5), (6, .int x6)] [] := by
  refine z_aload_n (pc := 140) (i := 0) C 0 dX5_readPeople_140 rfl rfl ?_
  refine z_iconst (pc := 141) C (0 : Int32) dX5_readPeople_141 (by decide) ?_
  refine z_iload_n (pc := 142) (i := 2) C 2 dX5_readPeople_142 rfl rfl ?_
  refine z_iconst (pc := 143) C (1 : Int32) dX5_readPeople_143 (by decide) ?_
  refine z_isub (pc := 144) C dX5_readPeople_144 ?_
  obtain ⟨q1, hq1, hf⟩ := bb_b_some hf
  refine z_callVi (pc := 145) (ci := 5) (q0 := 0) (As := [.int ((0 : Int32)), .int (x2 - ((1 : Int32)))]) (rest := []) (ws' := wX5 X.cs h q1.2) C (hR.le (by decide)) (c_X5_digit h hq1) (bb_cut_self _ _) bv_X5_digit bm_X5_137 rfl rfl rfl rfl (Nat.le_of_ble_eq_true rfl) dX5_readPeople_145 ?_
  refine z_istore (pc := 148) (lv' := [(7, .int q1.1), (0, .ref (h 0)), (1, .int x1), (2, .int x2), (3, .int x3), (5, .int x5), (6, .int x6)]) C dX5_readPeople_148 (by decide) rfl ?_
  refine z_lv [1, 2, 3, 4, 5, 6, 0] rfl ?_
  exact B_X5_readPeople_150 C hR hr h R hk2 hf
noncomputable def F_X5_readPeople_127 (k2 : bb_O → Int32 → Int32 → Int32 → Option (Int32 × bb_O)) (s0 : bb_O) (x1 : Int32) (x2 : Int32) (x3 : Int32) (x5 : Int32) (y0 : Int32) : Option (Int32 × bb_O) := (F_X5_must_0 s0 y0).bind (fun q1 => (F_X5_digit_0 q1 ((0 : Int32)) (x1 - ((1 : Int32)))).bind (fun q2 => F_X5_readPeople_140 k2 q2.2 x1 x2 x3 x5 q2.1))
set_option maxHeartbeats 4000000 in
set_option maxRecDepth 100000 in
theorem B_X5_readPeople_127 {X : bb_X} (C : bb_C X RX5 cX5_readPeople 10) (hR : bb_r X 3) (hr : X.meth.sig.returnType = (some .int)) (h : Nat → Nat) {z : (Int32 × bb_O)} (R : bb_R X (some (.int z.1)) (wX5 X.cs h z.2)) {k2 : bb_O → Int32 → Int32 → Int32 → Option (Int32 × bb_O)} (hk2 : ∀ (s0 : bb_O) (x1 : Int32) (x2 : Int32) (x3 : Int32), k2 s0 x1 x2 x3 = some z → bb_Z X 10 (wX5 X.cs h s0) 2 [(0, .ref (h 0)), (1, .int x1), (2, .int x2), (3, .int x3)] []) {s0 : bb_O} {x1 : Int32} {x2 : Int32} {x3 : Int32} {x5 : Int32} {y0 : Int32} (hf : F_X5_readPeople_127 k2 s0 x1 x2 x3 x5 y0 = some z) : bb_Z X 10 (wX5 X.cs h s0) 127 [(0, .ref (h 0)), (1, .int x1), (2, .int x2), (3, .int x3), (5, .int x5)] [.int y0, .ref (h 0)] := by
  obtain ⟨q1, hq1, hf⟩ := bb_b_some hf
  refine z_callVv (pc := 127) (ci := 5) (q0 := 0) (As := [.int y0]) (rest := []) (ws' := wX5 X.cs h q1) C (hR.le (by decide)) (c_X5_must h hq1) (bb_cut_self _ _) bv_X5_must bm_X5_131 rfl rfl rfl rfl (Nat.le_of_ble_eq_true rfl) dX5_readPeople_127 ?_
  refine z_aload_n (pc := 130) (i := 0) C 0 dX5_readPeople_130 rfl rfl ?_
  refine z_iconst (pc := 131) C (0 : Int32) dX5_readPeople_131 (by decide) ?_
  refine z_iload_n (pc := 132) (i := 1) C 1 dX5_readPeople_132 rfl rfl ?_
  refine z_iconst (pc := 133) C (1 : Int32) dX5_readPeople_133 (by decide) ?_
  refine z_isub (pc := 134) C dX5_readPeople_134 ?_
  obtain ⟨q2, hq2, hf⟩ := bb_b_some hf
  refine z_callVi (pc := 135) (ci := 5) (q0 := 0) (As := [.int ((0 : Int32)), .int (x1 - ((1 : Int32)))]) (rest := []) (ws' := wX5 X.cs h q2.2) C (hR.le (by decide)) (c_X5_digit h hq2) (bb_cut_self _ _) bv_X5_digit bm_X5_137 rfl rfl rfl rfl (Nat.le_of_ble_eq_true rfl) dX5_readPeople_135 ?_
  refine z_istore (pc := 138) (lv' := [(6, .int q2.1), (0, .ref (h 0)), (1, .int x1), (2, .int x2), (3, .int x3), (5, .int x5)]) C dX5_readPeople_138 (by decide) rfl ?_
  refine z_lv [1, 2, 3, 4, 5, 0] rfl ?_
  exact B_X5_readPeople_140 C hR hr h R hk2 hf
noncomputable def F_X5_readPeople_114 (k2 : bb_O → Int32 → Int32 → Int32 → Option (Int32 × bb_O)) (s0 : bb_O) (x1 : Int32) (x2 : Int32) (x3 : Int32) (y0 : Int32) : Option (Int32 × bb_O) := if y0 < 0 then (F_X5_readPeople_127 k2 s0 x1 x2 x3 y0 ((0 : Int32))) else (F_X5_readPeople_127 k2 s0 x1 x2 x3 y0 ((1 : Int32)))
set_option maxHeartbeats 4000000 in
set_option maxRecDepth 100000 in
theorem B_X5_readPeople_114 {X : bb_X} (C : bb_C X RX5 cX5_readPeople 10) (hR : bb_r X 3) (hr : X.meth.sig.returnType = (some .int)) (h : Nat → Nat) {z : (Int32 × bb_O)} (R : bb_R X (some (.int z.1)) (wX5 X.cs h z.2)) {k2 : bb_O → Int32 → Int32 → Int32 → Option (Int32 × bb_O)} (hk2 : ∀ (s0 : bb_O) (x1 : Int32) (x2 : Int32) (x3 : Int32), k2 s0 x1 x2 x3 = some z → bb_Z X 10 (wX5 X.cs h s0) 2 [(0, .ref (h 0)), (1, .int x1), (2, .int x2), (3, .int x3)] []) {s0 : bb_O} {x1 : Int32} {x2 : Int32} {x3 : Int32} {y0 : Int32} (hf : F_X5_readPeople_114 k2 s0 x1 x2 x3 y0 = some z) : bb_Z X 10 (wX5 X.cs h s0) 114 [(0, .ref (h 0)), (1, .int x1), (2, .int x2), (3, .int x3)] [.int y0] := by
  refine z_istore (pc := 114) (lv' := [(5, .int y0), (0, .ref (h 0)), (1, .int x1), (2, .int x2), (3, .int x3)]) C dX5_readPeople_114 (by decide) rfl ?_
  refine z_aload_n (pc := 116) (i := 0) C 1 dX5_readPeople_116 rfl rfl ?_
  refine z_iload (pc := 117) C 0 dX5_readPeople_117 rfl ?_
  refine z_if_lt (pc := 119) C 126 dX5_readPeople_119 (by decide) (fun hc1 => ?_) (fun hc1 => ?_)
  · have hf := bb_t hf hc1
    refine z_iconst (pc := 126) C (0 : Int32) dX5_readPeople_126 (by decide) ?_
    refine z_lv [1, 2, 3, 4, 0] rfl ?_
    exact B_X5_readPeople_127 C hR hr h R hk2 hf
  · have hf := bb_e hf hc1
    refine z_iconst (pc := 122) C (1 : Int32) dX5_readPeople_122 (by decide) ?_
    refine z_goto (pc := 123) C 127 dX5_readPeople_123 (by decide) ?_
    refine z_lv [1, 2, 3, 4, 0] rfl ?_
    exact B_X5_readPeople_127 C hR hr h R hk2 hf
noncomputable def F_X5_readPeople_56 (k2 : bb_O → Int32 → Int32 → Int32 → Option (Int32 × bb_O)) (s0 : bb_O) (x1 : Int32) (x2 : Int32) (x3 : Int32) (y0 : Int32) : Option (Int32 × bb_O) := if y0 = ((112 : Int32)) then (F_X5_readPeople_114 k2 s0 x1 x2 x3 ((0 : Int32))) else (if y0 = ((115 : Int32)) then (F_X5_readPeople_114 k2 s0 x1 x2 x3 ((1 : Int32))) else (if y0 = ((98 : Int32)) then (F_X5_readPeople_114 k2 s0 x1 x2 x3 ((2 : Int32))) else (if y0 = ((104 : Int32)) then (F_X5_readPeople_114 k2 s0 x1 x2 x3 ((3 : Int32))) else (if y0 = ((108 : Int32)) then (F_X5_readPeople_114 k2 s0 x1 x2 x3 ((4 : Int32))) else (F_X5_readPeople_114 k2 s0 x1 x2 x3 ((-1 : Int32)))))))
set_option maxHeartbeats 4000000 in
set_option maxRecDepth 100000 in
theorem B_X5_readPeople_56 {X : bb_X} (C : bb_C X RX5 cX5_readPeople 10) (hR : bb_r X 3) (hr : X.meth.sig.returnType = (some .int)) (h : Nat → Nat) {z : (Int32 × bb_O)} (R : bb_R X (some (.int z.1)) (wX5 X.cs h z.2)) {k2 : bb_O → Int32 → Int32 → Int32 → Option (Int32 × bb_O)} (hk2 : ∀ (s0 : bb_O) (x1 : Int32) (x2 : Int32) (x3 : Int32), k2 s0 x1 x2 x3 = some z → bb_Z X 10 (wX5 X.cs h s0) 2 [(0, .ref (h 0)), (1, .int x1), (2, .int x2), (3, .int x3)] []) {s0 : bb_O} {x1 : Int32} {x2 : Int32} {x3 : Int32} {y0 : Int32} (hf : F_X5_readPeople_56 k2 s0 x1 x2 x3 y0 = some z) : bb_Z X 10 (wX5 X.cs h s0) 56 [(0, .ref (h 0)), (1, .int x1), (2, .int x2), (3, .int x3)] [.int y0] := by
  refine z_istore (pc := 56) (lv' := [(4, .int y0), (0, .ref (h 0)), (1, .int x1), (2, .int x2), (3, .int x3)]) C dX5_readPeople_56 (by decide) rfl ?_
  refine z_iload (pc := 58) C 0 dX5_readPeople_58 rfl ?_
  refine z_bipush (pc := 60) C (112 : Int32) dX5_readPeople_60 (by decide) ?_
  refine z_icmp_ne (pc := 62) C 69 dX5_readPeople_62 (by decide) (fun hc1 => ?_) (fun hc1 => ?_)
  · have hf := bb_e hf hc1
    refine z_iload (pc := 69) C 0 dX5_readPeople_69 rfl ?_
    refine z_bipush (pc := 71) C (115 : Int32) dX5_readPeople_71 (by decide) ?_
    refine z_icmp_ne (pc := 73) C 80 dX5_readPeople_73 (by decide) (fun hc2 => ?_) (fun hc2 => ?_)
    · have hf := bb_e hf hc2
      refine z_iload (pc := 80) C 0 dX5_readPeople_80 rfl ?_
      refine z_bipush (pc := 82) C (98 : Int32) dX5_readPeople_82 (by decide) ?_
      refine z_icmp_ne (pc := 84) C 91 dX5_readPeople_84 (by decide) (fun hc3 => ?_) (fun hc3 => ?_)
      · have hf := bb_e hf hc3
        refine z_iload (pc := 91) C 0 dX5_readPeople_91 rfl ?_
        refine z_bipush (pc := 93) C (104 : Int32) dX5_readPeople_93 (by decide) ?_
        refine z_icmp_ne (pc := 95) C 102 dX5_readPeople_95 (by decide) (fun hc4 => ?_) (fun hc4 => ?_)
        · have hf := bb_e hf hc4
          refine z_iload (pc := 102) C 0 dX5_readPeople_102 rfl ?_
          refine z_bipush (pc := 104) C (108 : Int32) dX5_readPeople_104 (by decide) ?_
          refine z_icmp_ne (pc := 106) C 113 dX5_readPeople_106 (by decide) (fun hc5 => ?_) (fun hc5 => ?_)
          · have hf := bb_e hf hc5
            refine z_iconst (pc := 113) C (-1 : Int32) dX5_readPeople_113 (by decide) ?_
            refine z_lv [1, 2, 3, 4] rfl ?_
            exact B_X5_readPeople_114 C hR hr h R hk2 hf
          · have hf := bb_t hf hc5
            refine z_iconst (pc := 109) C (4 : Int32) dX5_readPeople_109 (by decide) ?_
            refine z_goto (pc := 110) C 114 dX5_readPeople_110 (by decide) ?_
            refine z_lv [1, 2, 3, 4] rfl ?_
            exact B_X5_readPeople_114 C hR hr h R hk2 hf
        · have hf := bb_t hf hc4
          refine z_iconst (pc := 98) C (3 : Int32) dX5_readPeople_98 (by decide) ?_
          refine z_goto (pc := 99) C 114 dX5_readPeople_99 (by decide) ?_
          refine z_lv [1, 2, 3, 4] rfl ?_
          exact B_X5_readPeople_114 C hR hr h R hk2 hf
      · have hf := bb_t hf hc3
        refine z_iconst (pc := 87) C (2 : Int32) dX5_readPeople_87 (by decide) ?_
        refine z_goto (pc := 88) C 114 dX5_readPeople_88 (by decide) ?_
        refine z_lv [1, 2, 3, 4] rfl ?_
        exact B_X5_readPeople_114 C hR hr h R hk2 hf
    · have hf := bb_t hf hc2
      refine z_iconst (pc := 76) C (1 : Int32) dX5_readPeople_76 (by decide) ?_
      refine z_goto (pc := 77) C 114 dX5_readPeople_77 (by decide) ?_
      refine z_lv [1, 2, 3, 4] rfl ?_
      exact B_X5_readPeople_114 C hR hr h R hk2 hf
  · have hf := bb_t hf hc1
    refine z_iconst (pc := 65) C (0 : Int32) dX5_readPeople_65 (by decide) ?_
    refine z_goto (pc := 66) C 114 dX5_readPeople_66 (by decide) ?_
    refine z_lv [1, 2, 3, 4] rfl ?_
    exact B_X5_readPeople_114 C hR hr h R hk2 hf
noncomputable def F_X5_readPeople_41 (k2 : bb_O → Int32 → Int32 → Int32 → Option (Int32 × bb_O)) (s0 : bb_O) (x1 : Int32) (x2 : Int32) (x3 : Int32) : Option (Int32 × bb_O) := if (s0.1 6) = 0 then ((F_X5_here_e s0).bind (fun q2 => F_X5_readPeople_56 k2 q2.2 x1 x2 x3 q2.1)) else (F_X5_readPeople_56 k2 s0 x1 x2 x3 ((0 : Int32)))
set_option maxHeartbeats 4000000 in
set_option maxRecDepth 100000 in
theorem B_X5_readPeople_41 {X : bb_X} (C : bb_C X RX5 cX5_readPeople 10) (hR : bb_r X 3) (hr : X.meth.sig.returnType = (some .int)) (h : Nat → Nat) {z : (Int32 × bb_O)} (R : bb_R X (some (.int z.1)) (wX5 X.cs h z.2)) {k2 : bb_O → Int32 → Int32 → Int32 → Option (Int32 × bb_O)} (hk2 : ∀ (s0 : bb_O) (x1 : Int32) (x2 : Int32) (x3 : Int32), k2 s0 x1 x2 x3 = some z → bb_Z X 10 (wX5 X.cs h s0) 2 [(0, .ref (h 0)), (1, .int x1), (2, .int x2), (3, .int x3)] []) {s0 : bb_O} {x1 : Int32} {x2 : Int32} {x3 : Int32} (hf : F_X5_readPeople_41 k2 s0 x1 x2 x3 = some z) : bb_Z X 10 (wX5 X.cs h s0) 41 [(0, .ref (h 0)), (1, .int x1), (2, .int x2), (3, .int x3)] [] := by
  refine z_aload_n (pc := 41) (i := 0) C 0 dX5_readPeople_41 rfl rfl ?_
  refine z_get (pc := 42) (ci := 5) C (.int (s0.1 6)) bi_X5 rfl 0 6 (by decide) rfl bf_X5_124 rfl rfl dX5_readPeople_42 ?_
  refine z_if_eq (pc := 45) C 52 dX5_readPeople_45 (by decide) (fun hc1 => ?_) (fun hc1 => ?_)
  · have hf := bb_t hf hc1
    refine z_aload_n (pc := 52) (i := 0) C 0 dX5_readPeople_52 rfl rfl ?_
    obtain ⟨q2, hq2, hf⟩ := bb_b_some hf
    refine z_callVi (pc := 53) (ci := 5) (q0 := 0) (As := []) (rest := []) (ws' := wX5 X.cs h q2.2) C (hR.le (by decide)) (c_X5_here h hq2) (bb_cut_self _ _) bv_X5_here bm_X5_128 rfl rfl rfl rfl (Nat.le_of_ble_eq_true rfl) dX5_readPeople_53 ?_
    exact B_X5_readPeople_56 C hR hr h R hk2 hf
  · have hf := bb_e hf hc1
    refine z_iconst (pc := 48) C (0 : Int32) dX5_readPeople_48 (by decide) ?_
    refine z_goto (pc := 49) C 56 dX5_readPeople_49 (by decide) ?_
    exact B_X5_readPeople_56 C hR hr h R hk2 hf
noncomputable def F_X5_readPeople_38 (k2 : bb_O → Int32 → Int32 → Int32 → Option (Int32 × bb_O)) (s0 : bb_O) (x1 : Int32) (x2 : Int32) (x3 : Int32) (y0 : Int32) : Option (Int32 × bb_O) := (F_X5_must_0 s0 y0).bind (fun q1 => F_X5_readPeople_41 k2 q1 x1 x2 x3)
set_option maxHeartbeats 4000000 in
set_option maxRecDepth 100000 in
theorem B_X5_readPeople_38 {X : bb_X} (C : bb_C X RX5 cX5_readPeople 10) (hR : bb_r X 3) (hr : X.meth.sig.returnType = (some .int)) (h : Nat → Nat) {z : (Int32 × bb_O)} (R : bb_R X (some (.int z.1)) (wX5 X.cs h z.2)) {k2 : bb_O → Int32 → Int32 → Int32 → Option (Int32 × bb_O)} (hk2 : ∀ (s0 : bb_O) (x1 : Int32) (x2 : Int32) (x3 : Int32), k2 s0 x1 x2 x3 = some z → bb_Z X 10 (wX5 X.cs h s0) 2 [(0, .ref (h 0)), (1, .int x1), (2, .int x2), (3, .int x3)] []) {s0 : bb_O} {x1 : Int32} {x2 : Int32} {x3 : Int32} {y0 : Int32} (hf : F_X5_readPeople_38 k2 s0 x1 x2 x3 y0 = some z) : bb_Z X 10 (wX5 X.cs h s0) 38 [(0, .ref (h 0)), (1, .int x1), (2, .int x2), (3, .int x3)] [.int y0, .ref (h 0)] := by
  obtain ⟨q1, hq1, hf⟩ := bb_b_some hf
  refine z_callVv (pc := 38) (ci := 5) (q0 := 0) (As := [.int y0]) (rest := []) (ws' := wX5 X.cs h q1) C (hR.le (by decide)) (c_X5_must h hq1) (bb_cut_self _ _) bv_X5_must bm_X5_131 rfl rfl rfl rfl (Nat.le_of_ble_eq_true rfl) dX5_readPeople_38 ?_
  exact B_X5_readPeople_41 C hR hr h R hk2 hf
noncomputable def F_X5_readPeople_22 (k2 : bb_O → Int32 → Int32 → Int32 → Option (Int32 × bb_O)) (s0 : bb_O) (x1 : Int32) (x2 : Int32) (x3 : Int32) : Option (Int32 × bb_O) := if x3 ≤ 0 then (F_X5_readPeople_41 k2 s0 x1 x2 x3) else (if ((6 : Int32)) ≤ x3 then (F_X5_readPeople_38 k2 s0 x1 x2 x3 ((0 : Int32))) else (F_X5_readPeople_38 k2 s0 x1 x2 x3 ((1 : Int32))))
set_option maxHeartbeats 4000000 in
set_option maxRecDepth 100000 in
theorem B_X5_readPeople_22 {X : bb_X} (C : bb_C X RX5 cX5_readPeople 10) (hR : bb_r X 3) (hr : X.meth.sig.returnType = (some .int)) (h : Nat → Nat) {z : (Int32 × bb_O)} (R : bb_R X (some (.int z.1)) (wX5 X.cs h z.2)) {k2 : bb_O → Int32 → Int32 → Int32 → Option (Int32 × bb_O)} (hk2 : ∀ (s0 : bb_O) (x1 : Int32) (x2 : Int32) (x3 : Int32), k2 s0 x1 x2 x3 = some z → bb_Z X 10 (wX5 X.cs h s0) 2 [(0, .ref (h 0)), (1, .int x1), (2, .int x2), (3, .int x3)] []) {s0 : bb_O} {x1 : Int32} {x2 : Int32} {x3 : Int32} (hf : F_X5_readPeople_22 k2 s0 x1 x2 x3 = some z) : bb_Z X 10 (wX5 X.cs h s0) 22 [(0, .ref (h 0)), (1, .int x1), (2, .int x2), (3, .int x3)] [] := by
  refine z_iload_n (pc := 22) (i := 3) C 3 dX5_readPeople_22 rfl rfl ?_
  refine z_if_le (pc := 23) C 41 dX5_readPeople_23 (by decide) (fun hc1 => ?_) (fun hc1 => ?_)
  · have hf := bb_t hf hc1
    exact B_X5_readPeople_41 C hR hr h R hk2 hf
  · have hf := bb_e hf hc1
    refine z_aload_n (pc := 26) (i := 0) C 0 dX5_readPeople_26 rfl rfl ?_
    refine z_iload_n (pc := 27) (i := 3) C 3 dX5_readPeople_27 rfl rfl ?_
    refine z_bipush (pc := 28) C (6 : Int32) dX5_readPeople_28 (by decide) ?_
    refine z_icmp_ge (pc := 30) C 37 dX5_readPeople_30 (by decide) (fun hc2 => ?_) (fun hc2 => ?_)
    · have hf := bb_t hf hc2
      refine z_iconst (pc := 37) C (0 : Int32) dX5_readPeople_37 (by decide) ?_
      exact B_X5_readPeople_38 C hR hr h R hk2 hf
    · have hf := bb_e hf hc2
      refine z_iconst (pc := 33) C (1 : Int32) dX5_readPeople_33 (by decide) ?_
      refine z_goto (pc := 34) C 38 dX5_readPeople_34 (by decide) ?_
      exact B_X5_readPeople_38 C hR hr h R hk2 hf
noncomputable def G_X5_readPeople_2 (k2 : bb_O → Int32 → Int32 → Int32 → Option (Int32 × bb_O)) (s0 : bb_O) (x1 : Int32) (x2 : Int32) (x3 : Int32) : Option (Int32 × bb_O) := if (s0.1 6) = 0 then (if x3 = 0 then (F_X5_readPeople_22 k2 s0 x1 x2 x3) else ((F_X5_here_e s0).bind (fun q3 => if q3.1 = ((44 : Int32)) then (F_X5_readPeople_22 k2 q3.2 x1 x2 x3) else (F_X5_readPeople_229 q3.2 x3)))) else (F_X5_readPeople_229 s0 x3)
noncomputable def F_X5_readPeople_2  : Nat → bb_O → Int32 → Int32 → Int32 → Option (Int32 × bb_O)
  | 0, _, _, _, _ => none
  | n + 1, s0, x1, x2, x3 => G_X5_readPeople_2  (F_X5_readPeople_2  n) s0 x1 x2 x3
set_option maxHeartbeats 4000000 in
set_option maxRecDepth 100000 in
theorem A_X5_readPeople_2 {X : bb_X} (C : bb_C X RX5 cX5_readPeople 10) (hR : bb_r X 3) (hr : X.meth.sig.returnType = (some .int)) (h : Nat → Nat) {z : (Int32 × bb_O)} (R : bb_R X (some (.int z.1)) (wX5 X.cs h z.2)) {k2 : bb_O → Int32 → Int32 → Int32 → Option (Int32 × bb_O)} (hk2 : ∀ (s0 : bb_O) (x1 : Int32) (x2 : Int32) (x3 : Int32), k2 s0 x1 x2 x3 = some z → bb_Z X 10 (wX5 X.cs h s0) 2 [(0, .ref (h 0)), (1, .int x1), (2, .int x2), (3, .int x3)] []) {s0 : bb_O} {x1 : Int32} {x2 : Int32} {x3 : Int32} (hf : G_X5_readPeople_2 k2 s0 x1 x2 x3 = some z) : bb_Z X 10 (wX5 X.cs h s0) 2 [(0, .ref (h 0)), (1, .int x1), (2, .int x2), (3, .int x3)] [] := by
  refine z_aload_n (pc := 2) (i := 0) C 0 dX5_readPeople_2 rfl rfl ?_
  refine z_get (pc := 3) (ci := 5) C (.int (s0.1 6)) bi_X5 rfl 0 6 (by decide) rfl bf_X5_124 rfl rfl dX5_readPeople_3 ?_
  refine z_if_ne (pc := 6) C 229 dX5_readPeople_6 (by decide) (fun hc1 => ?_) (fun hc1 => ?_)
  · have hf := bb_e hf hc1
    refine z_lv [3] rfl ?_
    exact B_X5_readPeople_229 C hR hr h R  hf
  · have hf := bb_t hf hc1
    refine z_iload_n (pc := 9) (i := 3) C 3 dX5_readPeople_9 rfl rfl ?_
    refine z_if_eq (pc := 10) C 22 dX5_readPeople_10 (by decide) (fun hc2 => ?_) (fun hc2 => ?_)
    · have hf := bb_t hf hc2
      exact B_X5_readPeople_22 C hR hr h R hk2 hf
    · have hf := bb_e hf hc2
      refine z_aload_n (pc := 13) (i := 0) C 0 dX5_readPeople_13 rfl rfl ?_
      obtain ⟨q3, hq3, hf⟩ := bb_b_some hf
      refine z_callVi (pc := 14) (ci := 5) (q0 := 0) (As := []) (rest := []) (ws' := wX5 X.cs h q3.2) C (hR.le (by decide)) (c_X5_here h hq3) (bb_cut_self _ _) bv_X5_here bm_X5_128 rfl rfl rfl rfl (Nat.le_of_ble_eq_true rfl) dX5_readPeople_14 ?_
      refine z_bipush (pc := 17) C (44 : Int32) dX5_readPeople_17 (by decide) ?_
      refine z_icmp_ne (pc := 19) C 229 dX5_readPeople_19 (by decide) (fun hc4 => ?_) (fun hc4 => ?_)
      · have hf := bb_e hf hc4
        refine z_lv [3] rfl ?_
        exact B_X5_readPeople_229 C hR hr h R  hf
      · have hf := bb_t hf hc4
        exact B_X5_readPeople_22 C hR hr h R hk2 hf
theorem B_X5_readPeople_2 {X : bb_X} (C : bb_C X RX5 cX5_readPeople 10) (hR : bb_r X 3) (hr : X.meth.sig.returnType = (some .int)) (h : Nat → Nat) {z : (Int32 × bb_O)} (R : bb_R X (some (.int z.1)) (wX5 X.cs h z.2)) : ∀ (n : Nat) (s0 : bb_O) (x1 : Int32) (x2 : Int32) (x3 : Int32), F_X5_readPeople_2  n s0 x1 x2 x3 = some z → bb_Z X 10 (wX5 X.cs h s0) 2 [(0, .ref (h 0)), (1, .int x1), (2, .int x2), (3, .int x3)] [] := by
  intro n
  induction n with
  | zero =>
    intro s0 x1 x2 x3 hf
    cases hf
  | succ n ih =>
    intro s0 x1 x2 x3 hf
    exact A_X5_readPeople_2 C hR hr h R  ih hf
noncomputable def F_X5_readPeople_0 (s0 : bb_O) (x1 : Int32) (x2 : Int32) : Option (Int32 × bb_O) := F_X5_readPeople_2 bb_N s0 x1 x2 ((0 : Int32))
set_option maxHeartbeats 4000000 in
set_option maxRecDepth 100000 in
theorem B_X5_readPeople_0 {X : bb_X} (C : bb_C X RX5 cX5_readPeople 10) (hR : bb_r X 3) (hr : X.meth.sig.returnType = (some .int)) (h : Nat → Nat) {z : (Int32 × bb_O)} (R : bb_R X (some (.int z.1)) (wX5 X.cs h z.2)) {s0 : bb_O} {x1 : Int32} {x2 : Int32} (hf : F_X5_readPeople_0 s0 x1 x2 = some z) : bb_Z X 10 (wX5 X.cs h s0) 0 [(0, .ref (h 0)), (1, .int x1), (2, .int x2)] [] := by
  refine z_iconst (pc := 0) C (0 : Int32) dX5_readPeople_0 (by decide) ?_
  refine z_istore_n (pc := 1) (i := 3) (lv' := [(3, .int ((0 : Int32))), (0, .ref (h 0)), (1, .int x1), (2, .int x2)]) C dX5_readPeople_1 rfl (by decide) rfl ?_
  refine z_lv [1, 2, 3, 0] rfl ?_
  exact B_X5_readPeople_2 C hR hr h R  bb_N _ _ _ _ hf
theorem c_X5_readPeople {l : Launch} {D : va_G} {cs : Nat → ClassId} (h : Nat → Nat) {s0 : bb_O} {x1 : Int32} {x2 : Int32} {z : (Int32 × bb_O)} (hf : F_X5_readPeople_0 s0 x1 x2 = some z) : bb_M l yX5_readPeople cX5_readPeople 10 (some .int) 3 D cs [.ref (h 0), .int x1, .int x2] (some (.int z.1)) (wX5 cs h s0) (wX5 cs h z.2) := bb_mg (by decide) rfl (Nat.le_of_ble_eq_true rfl) rfl (fun X hl hD hcs C hR hr R => by
  subst hl
  subst hD
  subst hcs
  exact B_X5_readPeople_0 C hR hr h R hf)
/-! X5_city: writes, level 4 -/
noncomputable def G_X5_city_135 (k135 : bb_O → Int32 → Int32 → Option (Int32 × bb_O)) (s0 : bb_O) (x5 : Int32) (x6 : Int32) : Option (Int32 × bb_O) := if x5 ≤ x6 then (some (x5, s0)) else (bb_g (vp_in (((4 : Int32)) * x6) 24) (bb_g (vp_in ((((4 : Int32)) * x6) + ((1 : Int32))) 24) (bb_g (vp_in ((((4 : Int32)) * x6) + ((2 : Int32))) 24) (bb_g (vp_in ((((4 : Int32)) * x6) + ((3 : Int32))) 24) ((F_X5_comes_0 s0 (s0.2.1 7 (((4 : Int32)) * x6).toNatClampNeg) (s0.2.1 7 ((((4 : Int32)) * x6) + ((1 : Int32))).toNatClampNeg) (s0.2.1 7 ((((4 : Int32)) * x6) + ((2 : Int32))).toNatClampNeg) (s0.2.1 7 ((((4 : Int32)) * x6) + ((3 : Int32))).toNatClampNeg)).bind (fun q6 => k135 q6 x5 (x6 + 1)))))))
noncomputable def F_X5_city_135  : Nat → bb_O → Int32 → Int32 → Option (Int32 × bb_O)
  | 0, _, _, _ => none
  | n + 1, s0, x5, x6 => G_X5_city_135  (F_X5_city_135  n) s0 x5 x6
set_option maxHeartbeats 4000000 in
set_option maxRecDepth 100000 in
theorem A_X5_city_135 {X : bb_X} (C : bb_C X RX5 cX5_city 7) (hR : bb_r X 4) (hr : X.meth.sig.returnType = (some .int)) (h : Nat → Nat) {z : (Int32 × bb_O)} (R : bb_R X (some (.int z.1)) (wX5 X.cs h z.2)) {k135 : bb_O → Int32 → Int32 → Option (Int32 × bb_O)} (hk135 : ∀ (s0 : bb_O) (x5 : Int32) (x6 : Int32), k135 s0 x5 x6 = some z → bb_Z X 7 (wX5 X.cs h s0) 135 [(0, .ref (h 0)), (5, .int x5), (6, .int x6)] []) {s0 : bb_O} {x5 : Int32} {x6 : Int32} (hf : G_X5_city_135 k135 s0 x5 x6 = some z) : bb_Z X 7 (wX5 X.cs h s0) 135 [(0, .ref (h 0)), (5, .int x5), (6, .int x6)] [] := by
  refine z_iload (pc := 135) C 2 dX5_city_135 rfl ?_
  refine z_iload (pc := 137) C 1 dX5_city_137 rfl ?_
  refine z_icmp_ge (pc := 139) C 194 dX5_city_139 (by decide) (fun hc1 => ?_) (fun hc1 => ?_)
  · have hf := bb_t hf hc1
    refine z_iload (pc := 194) C 1 dX5_city_194 rfl ?_
    obtain rfl := Option.some.inj hf
    exact z_iret (pc := 196) C hr R dX5_city_196
  · have hf := bb_e hf hc1
    refine z_aload_n (pc := 142) (i := 0) C 0 dX5_city_142 rfl rfl ?_
    refine z_aload_n (pc := 143) (i := 0) C 0 dX5_city_143 rfl rfl ?_
    refine z_get (pc := 144) (ci := 5) C (.ref (h 8)) bi_X5 rfl 0 7 (by decide) rfl bf_X5_16 rfl rfl dX5_city_144 ?_
    refine z_iconst (pc := 147) C (4 : Int32) dX5_city_147 (by decide) ?_
    refine z_iload (pc := 148) C 2 dX5_city_148 rfl ?_
    refine z_imul (pc := 150) C dX5_city_150 ?_
    obtain ⟨hv2, hf⟩ := bb_g_some hf
    refine z_iald (pc := 151) C 3 0 ((((4 : Int32)) * x6).toNatClampNeg) rfl rfl hv2 rfl dX5_city_151 ?_
    refine z_aload_n (pc := 152) (i := 0) C 0 dX5_city_152 rfl rfl ?_
    refine z_get (pc := 153) (ci := 5) C (.ref (h 8)) bi_X5 rfl 0 7 (by decide) rfl bf_X5_16 rfl rfl dX5_city_153 ?_
    refine z_iconst (pc := 156) C (4 : Int32) dX5_city_156 (by decide) ?_
    refine z_iload (pc := 157) C 2 dX5_city_157 rfl ?_
    refine z_imul (pc := 159) C dX5_city_159 ?_
    refine z_iconst (pc := 160) C (1 : Int32) dX5_city_160 (by decide) ?_
    refine z_iadd (pc := 161) C dX5_city_161 ?_
    obtain ⟨hv3, hf⟩ := bb_g_some hf
    refine z_iald (pc := 162) C 3 0 (((((4 : Int32)) * x6) + ((1 : Int32))).toNatClampNeg) rfl rfl hv3 rfl dX5_city_162 ?_
    refine z_aload_n (pc := 163) (i := 0) C 0 dX5_city_163 rfl rfl ?_
    refine z_get (pc := 164) (ci := 5) C (.ref (h 8)) bi_X5 rfl 0 7 (by decide) rfl bf_X5_16 rfl rfl dX5_city_164 ?_
    refine z_iconst (pc := 167) C (4 : Int32) dX5_city_167 (by decide) ?_
    refine z_iload (pc := 168) C 2 dX5_city_168 rfl ?_
    refine z_imul (pc := 170) C dX5_city_170 ?_
    refine z_iconst (pc := 171) C (2 : Int32) dX5_city_171 (by decide) ?_
    refine z_iadd (pc := 172) C dX5_city_172 ?_
    obtain ⟨hv4, hf⟩ := bb_g_some hf
    refine z_iald (pc := 173) C 3 0 (((((4 : Int32)) * x6) + ((2 : Int32))).toNatClampNeg) rfl rfl hv4 rfl dX5_city_173 ?_
    refine z_aload_n (pc := 174) (i := 0) C 0 dX5_city_174 rfl rfl ?_
    refine z_get (pc := 175) (ci := 5) C (.ref (h 8)) bi_X5 rfl 0 7 (by decide) rfl bf_X5_16 rfl rfl dX5_city_175 ?_
    refine z_iconst (pc := 178) C (4 : Int32) dX5_city_178 (by decide) ?_
    refine z_iload (pc := 179) C 2 dX5_city_179 rfl ?_
    refine z_imul (pc := 181) C dX5_city_181 ?_
    refine z_iconst (pc := 182) C (3 : Int32) dX5_city_182 (by decide) ?_
    refine z_iadd (pc := 183) C dX5_city_183 ?_
    obtain ⟨hv5, hf⟩ := bb_g_some hf
    refine z_iald (pc := 184) C 3 0 (((((4 : Int32)) * x6) + ((3 : Int32))).toNatClampNeg) rfl rfl hv5 rfl dX5_city_184 ?_
    obtain ⟨q6, hq6, hf⟩ := bb_b_some hf
    refine z_callVv (pc := 185) (ci := 5) (q0 := 0) (As := [.int (s0.2.1 7 (((4 : Int32)) * x6).toNatClampNeg), .int (s0.2.1 7 ((((4 : Int32)) * x6) + ((1 : Int32))).toNatClampNeg), .int (s0.2.1 7 ((((4 : Int32)) * x6) + ((2 : Int32))).toNatClampNeg), .int (s0.2.1 7 ((((4 : Int32)) * x6) + ((3 : Int32))).toNatClampNeg)]) (rest := []) (ws' := wX5 X.cs h q6) C (hR.le (by decide)) (c_X5_comes h hq6) (bb_cut_self _ _) bv_X5_comes bm_X5_103 rfl rfl rfl rfl (Nat.le_of_ble_eq_true rfl) dX5_city_185 ?_
    refine z_iinc (pc := 188) (lv' := [(6, .int (x6 + 1)), (0, .ref (h 0)), (5, .int x5)]) C (x6 + 1) 2 dX5_city_188 rfl rfl (by decide) rfl ?_
    refine z_goto (pc := 191) C 135 dX5_city_191 (by decide) ?_
    refine z_lv [1, 2, 0] rfl ?_
    exact hk135 _ _ _ hf
theorem B_X5_city_135 {X : bb_X} (C : bb_C X RX5 cX5_city 7) (hR : bb_r X 4) (hr : X.meth.sig.returnType = (some .int)) (h : Nat → Nat) {z : (Int32 × bb_O)} (R : bb_R X (some (.int z.1)) (wX5 X.cs h z.2)) : ∀ (n : Nat) (s0 : bb_O) (x5 : Int32) (x6 : Int32), F_X5_city_135  n s0 x5 x6 = some z → bb_Z X 7 (wX5 X.cs h s0) 135 [(0, .ref (h 0)), (5, .int x5), (6, .int x6)] [] := by
  intro n
  induction n with
  | zero =>
    intro s0 x5 x6 hf
    cases hf
  | succ n ih =>
    intro s0 x5 x6 hf
    exact A_X5_city_135 C hR hr h R  ih hf
noncomputable def F_X5_city_132 (s0 : bb_O) (x5 : Int32) : Option (Int32 × bb_O) := F_X5_city_135 bb_N s0 x5 ((0 : Int32))
set_option maxHeartbeats 4000000 in
set_option maxRecDepth 100000 in
theorem B_X5_city_132 {X : bb_X} (C : bb_C X RX5 cX5_city 7) (hR : bb_r X 4) (hr : X.meth.sig.returnType = (some .int)) (h : Nat → Nat) {z : (Int32 × bb_O)} (R : bb_R X (some (.int z.1)) (wX5 X.cs h z.2)) {s0 : bb_O} {x5 : Int32} (hf : F_X5_city_132 s0 x5 = some z) : bb_Z X 7 (wX5 X.cs h s0) 132 [(0, .ref (h 0)), (5, .int x5)] [] := by
  refine z_iconst (pc := 132) C (0 : Int32) dX5_city_132 (by decide) ?_
  refine z_istore (pc := 133) (lv' := [(6, .int ((0 : Int32))), (0, .ref (h 0)), (5, .int x5)]) C dX5_city_133 (by decide) rfl ?_
  refine z_lv [1, 2, 0] rfl ?_
  exact B_X5_city_135 C hR hr h R  bb_N _ _ _ hf
noncomputable def F_X5_city_99 (s0 : bb_O) (x1 : Int32) (x2 : Int32) (x3 : Int32) (x4 : Int32) (x5 : Int32) : Option (Int32 × bb_O) := if (s0.1 6) = 0 then ((F_X5_fresh_0 s0 x1 x2).bind (fun q2 => F_X5_city_132 (bb_sA q2 0 (upd (q2.2.1 0) 3 ((x3 * x2) + x4))) x5)) else (some (((-20 : Int32)) - (s0.1 5), s0))
set_option maxHeartbeats 4000000 in
set_option maxRecDepth 100000 in
theorem B_X5_city_99 {X : bb_X} (C : bb_C X RX5 cX5_city 7) (hR : bb_r X 4) (hr : X.meth.sig.returnType = (some .int)) (h : Nat → Nat) {z : (Int32 × bb_O)} (R : bb_R X (some (.int z.1)) (wX5 X.cs h z.2)) {s0 : bb_O} {x1 : Int32} {x2 : Int32} {x3 : Int32} {x4 : Int32} {x5 : Int32} (hf : F_X5_city_99 s0 x1 x2 x3 x4 x5 = some z) : bb_Z X 7 (wX5 X.cs h s0) 99 [(0, .ref (h 0)), (1, .int x1), (2, .int x2), (3, .int x3), (4, .int x4), (5, .int x5)] [] := by
  refine z_aload_n (pc := 99) (i := 0) C 0 dX5_city_99 rfl rfl ?_
  refine z_get (pc := 100) (ci := 5) C (.int (s0.1 6)) bi_X5 rfl 0 6 (by decide) rfl bf_X5_124 rfl rfl dX5_city_100 ?_
  refine z_if_eq (pc := 103) C 114 dX5_city_103 (by decide) (fun hc1 => ?_) (fun hc1 => ?_)
  · have hf := bb_t hf hc1
    refine z_aload_n (pc := 114) (i := 0) C 0 dX5_city_114 rfl rfl ?_
    refine z_iload_n (pc := 115) (i := 1) C 1 dX5_city_115 rfl rfl ?_
    refine z_iload_n (pc := 116) (i := 2) C 2 dX5_city_116 rfl rfl ?_
    obtain ⟨q2, hq2, hf⟩ := bb_b_some hf
    refine z_callVv (pc := 117) (ci := 5) (q0 := 0) (As := [.int x1, .int x2]) (rest := []) (ws' := wX5 X.cs h q2) C (hR.le (by decide)) (c_X5_fresh h hq2) (bb_cut_self _ _) bv_X5_fresh bm_X5_41 rfl rfl rfl rfl (Nat.le_of_ble_eq_true rfl) dX5_city_117 ?_
    refine z_aload_n (pc := 120) (i := 0) C 0 dX5_city_120 rfl rfl ?_
    refine z_get (pc := 121) (ci := 5) C (.ref (h 1)) bi_X5 rfl 0 0 (by decide) rfl bf_X5_7 rfl rfl dX5_city_121 ?_
    refine z_iconst (pc := 124) C (3 : Int32) dX5_city_124 (by decide) ?_
    refine z_iload_n (pc := 125) (i := 3) C 3 dX5_city_125 rfl rfl ?_
    refine z_iload_n (pc := 126) (i := 2) C 2 dX5_city_126 rfl rfl ?_
    refine z_imul (pc := 127) C dX5_city_127 ?_
    refine z_iload (pc := 128) C 4 dX5_city_128 rfl ?_
    refine z_iadd (pc := 130) C dX5_city_130 ?_
    refine z_iast (pc := 131) (ws' := wX5 X.cs h (bb_sA q2 0 (upd (q2.2.1 0) 3 ((x3 * x2) + x4)))) C 1 0 (3) rfl rfl (show ¬ ((3 : Int32) < 0 ∨ 39 ≤ (3 : Int32).toNatClampNeg) by decide) (by decide) rfl dX5_city_131 ?_
    refine z_lv [0, 5] rfl ?_
    exact B_X5_city_132 C hR hr h R  hf
  · have hf := bb_e hf hc1
    refine z_bipush (pc := 106) C (-20 : Int32) dX5_city_106 (by decide) ?_
    refine z_aload_n (pc := 108) (i := 0) C 0 dX5_city_108 rfl rfl ?_
    refine z_get (pc := 109) (ci := 5) C (.int (s0.1 5)) bi_X5 rfl 0 5 (by decide) rfl bf_X5_121 rfl rfl dX5_city_109 ?_
    refine z_isub (pc := 112) C dX5_city_112 ?_
    obtain rfl := Option.some.inj hf
    exact z_iret (pc := 113) C hr R dX5_city_113
noncomputable def F_X5_city_94 (s0 : bb_O) (x1 : Int32) (x2 : Int32) (x3 : Int32) (x4 : Int32) (x5 : Int32) : Option (Int32 × bb_O) := F_X5_city_99 (bb_sf s0 4 ((0 : Int32))) x1 x2 x3 x4 x5
set_option maxHeartbeats 4000000 in
set_option maxRecDepth 100000 in
theorem B_X5_city_94 {X : bb_X} (C : bb_C X RX5 cX5_city 7) (hR : bb_r X 4) (hr : X.meth.sig.returnType = (some .int)) (h : Nat → Nat) {z : (Int32 × bb_O)} (R : bb_R X (some (.int z.1)) (wX5 X.cs h z.2)) {s0 : bb_O} {x1 : Int32} {x2 : Int32} {x3 : Int32} {x4 : Int32} {x5 : Int32} (hf : F_X5_city_94 s0 x1 x2 x3 x4 x5 = some z) : bb_Z X 7 (wX5 X.cs h s0) 94 [(0, .ref (h 0)), (1, .int x1), (2, .int x2), (3, .int x3), (4, .int x4), (5, .int x5)] [] := by
  refine z_aload_n (pc := 94) (i := 0) C 0 dX5_city_94 rfl rfl ?_
  refine z_iconst (pc := 95) C (0 : Int32) dX5_city_95 (by decide) ?_
  refine z_put (pc := 96) (ci := 5) (ty := .int) (ws' := wX5 X.cs h (bb_sf s0 4 ((0 : Int32)))) C bi_X5 tyX5_ok nmX5 rfl 0 4 (by decide) rfl bf_X5_118 rfl rfl rfl rfl rfl (Nat.le_of_ble_eq_true rfl) rfl dX5_city_96 ?_
  exact B_X5_city_99 C hR hr h R  hf
noncomputable def F_X5_city_91 (s0 : bb_O) (x1 : Int32) (x2 : Int32) (x3 : Int32) (x4 : Int32) (x5 : Int32) (y0 : Int32) : Option (Int32 × bb_O) := bb_g (bb_z y0) (F_X5_city_94 (bb_sf s0 6 y0) x1 x2 x3 x4 x5)
set_option maxHeartbeats 4000000 in
set_option maxRecDepth 100000 in
theorem B_X5_city_91 {X : bb_X} (C : bb_C X RX5 cX5_city 7) (hR : bb_r X 4) (hr : X.meth.sig.returnType = (some .int)) (h : Nat → Nat) {z : (Int32 × bb_O)} (R : bb_R X (some (.int z.1)) (wX5 X.cs h z.2)) {s0 : bb_O} {x1 : Int32} {x2 : Int32} {x3 : Int32} {x4 : Int32} {x5 : Int32} {y0 : Int32} (hf : F_X5_city_91 s0 x1 x2 x3 x4 x5 y0 = some z) : bb_Z X 7 (wX5 X.cs h s0) 91 [(0, .ref (h 0)), (1, .int x1), (2, .int x2), (3, .int x3), (4, .int x4), (5, .int x5)] [.int y0, .ref (h 0)] := by
  obtain ⟨hz1, hf⟩ := bb_g_some hf
  refine z_put (pc := 91) (ci := 5) (ty := .boolean) (ws' := wX5 X.cs h (bb_sf s0 6 y0)) C bi_X5 tyX5_ok nmX5 rfl 0 6 (by decide) rfl bf_X5_124 rfl rfl (bb_nz hz1) (bb_fz hz1) rfl (Nat.le_of_ble_eq_true rfl) rfl dX5_city_91 ?_
  exact B_X5_city_94 C hR hr h R  hf
noncomputable def F_X5_city_86 (s0 : bb_O) (x1 : Int32) (x2 : Int32) (x3 : Int32) (x4 : Int32) (x5 : Int32) : Option (Int32 × bb_O) := F_X5_city_91 s0 x1 x2 x3 x4 x5 ((1 : Int32))
set_option maxHeartbeats 4000000 in
set_option maxRecDepth 100000 in
theorem B_X5_city_86 {X : bb_X} (C : bb_C X RX5 cX5_city 7) (hR : bb_r X 4) (hr : X.meth.sig.returnType = (some .int)) (h : Nat → Nat) {z : (Int32 × bb_O)} (R : bb_R X (some (.int z.1)) (wX5 X.cs h z.2)) {s0 : bb_O} {x1 : Int32} {x2 : Int32} {x3 : Int32} {x4 : Int32} {x5 : Int32} (hf : F_X5_city_86 s0 x1 x2 x3 x4 x5 = some z) : bb_Z X 7 (wX5 X.cs h s0) 86 [(0, .ref (h 0)), (1, .int x1), (2, .int x2), (3, .int x3), (4, .int x4), (5, .int x5)] [.ref (h 0)] := by
  refine z_iconst (pc := 86) C (1 : Int32) dX5_city_86 (by decide) ?_
  refine z_goto (pc := 87) C 91 dX5_city_87 (by decide) ?_
  exact B_X5_city_91 C hR hr h R  hf
noncomputable def F_X5_city_71 (s0 : bb_O) (x1 : Int32) (x2 : Int32) (x3 : Int32) (x4 : Int32) (x5 : Int32) : Option (Int32 × bb_O) := if (s0.1 6) = 0 then ((F_X5_here_e s0).bind (fun q2 => if q2.1 = 0 then (F_X5_city_91 q2.2 x1 x2 x3 x4 x5 ((0 : Int32))) else (F_X5_city_86 q2.2 x1 x2 x3 x4 x5))) else (F_X5_city_86 s0 x1 x2 x3 x4 x5)
set_option maxHeartbeats 4000000 in
set_option maxRecDepth 100000 in
theorem B_X5_city_71 {X : bb_X} (C : bb_C X RX5 cX5_city 7) (hR : bb_r X 4) (hr : X.meth.sig.returnType = (some .int)) (h : Nat → Nat) {z : (Int32 × bb_O)} (R : bb_R X (some (.int z.1)) (wX5 X.cs h z.2)) {s0 : bb_O} {x1 : Int32} {x2 : Int32} {x3 : Int32} {x4 : Int32} {x5 : Int32} (hf : F_X5_city_71 s0 x1 x2 x3 x4 x5 = some z) : bb_Z X 7 (wX5 X.cs h s0) 71 [(0, .ref (h 0)), (1, .int x1), (2, .int x2), (3, .int x3), (4, .int x4), (5, .int x5)] [] := by
  refine z_aload_n (pc := 71) (i := 0) C 0 dX5_city_71 rfl rfl ?_
  refine z_aload_n (pc := 72) (i := 0) C 0 dX5_city_72 rfl rfl ?_
  refine z_get (pc := 73) (ci := 5) C (.int (s0.1 6)) bi_X5 rfl 0 6 (by decide) rfl bf_X5_124 rfl rfl dX5_city_73 ?_
  refine z_if_ne (pc := 76) C 86 dX5_city_76 (by decide) (fun hc1 => ?_) (fun hc1 => ?_)
  · have hf := bb_e hf hc1
    exact B_X5_city_86 C hR hr h R  hf
  · have hf := bb_t hf hc1
    refine z_aload_n (pc := 79) (i := 0) C 0 dX5_city_79 rfl rfl ?_
    obtain ⟨q2, hq2, hf⟩ := bb_b_some hf
    refine z_callVi (pc := 80) (ci := 5) (q0 := 0) (As := []) (rest := [.ref (h 0)]) (ws' := wX5 X.cs h q2.2) C (hR.le (by decide)) (c_X5_here h hq2) (bb_cut_self _ _) bv_X5_here bm_X5_128 rfl rfl rfl rfl (Nat.le_of_ble_eq_true rfl) dX5_city_80 ?_
    refine z_if_eq (pc := 83) C 90 dX5_city_83 (by decide) (fun hc3 => ?_) (fun hc3 => ?_)
    · have hf := bb_t hf hc3
      refine z_iconst (pc := 90) C (0 : Int32) dX5_city_90 (by decide) ?_
      exact B_X5_city_91 C hR hr h R  hf
    · have hf := bb_e hf hc3
      exact B_X5_city_86 C hR hr h R  hf
noncomputable def F_X5_city_57 (s0 : bb_O) (x1 : Int32) (x2 : Int32) (x3 : Int32) (x4 : Int32) : Option (Int32 × bb_O) := (F_X5_sign_0 s0 ((59 : Int32))).bind (fun q1 => (F_X5_readPeople_0 q1 x1 x2).bind (fun q2 => F_X5_city_71 q2.2 x1 x2 x3 x4 q2.1))
set_option maxHeartbeats 4000000 in
set_option maxRecDepth 100000 in
theorem B_X5_city_57 {X : bb_X} (C : bb_C X RX5 cX5_city 7) (hR : bb_r X 4) (hr : X.meth.sig.returnType = (some .int)) (h : Nat → Nat) {z : (Int32 × bb_O)} (R : bb_R X (some (.int z.1)) (wX5 X.cs h z.2)) {s0 : bb_O} {x1 : Int32} {x2 : Int32} {x3 : Int32} {x4 : Int32} (hf : F_X5_city_57 s0 x1 x2 x3 x4 = some z) : bb_Z X 7 (wX5 X.cs h s0) 57 [(0, .ref (h 0)), (1, .int x1), (2, .int x2), (3, .int x3), (4, .int x4)] [] := by
  refine z_aload_n (pc := 57) (i := 0) C 0 dX5_city_57 rfl rfl ?_
  refine z_bipush (pc := 58) C (59 : Int32) dX5_city_58 (by decide) ?_
  obtain ⟨q1, hq1, hf⟩ := bb_b_some hf
  refine z_callVv (pc := 60) (ci := 5) (q0 := 0) (As := [.int ((59 : Int32))]) (rest := []) (ws' := wX5 X.cs h q1) C (hR.le (by decide)) (c_X5_sign h hq1) (bb_cut_self _ _) bv_X5_sign bm_X5_143 rfl rfl rfl rfl (Nat.le_of_ble_eq_true rfl) dX5_city_60 ?_
  refine z_aload_n (pc := 63) (i := 0) C 0 dX5_city_63 rfl rfl ?_
  refine z_iload_n (pc := 64) (i := 1) C 1 dX5_city_64 rfl rfl ?_
  refine z_iload_n (pc := 65) (i := 2) C 2 dX5_city_65 rfl rfl ?_
  obtain ⟨q2, hq2, hf⟩ := bb_b_some hf
  refine z_callVi (pc := 66) (ci := 5) (q0 := 0) (As := [.int x1, .int x2]) (rest := []) (ws' := wX5 X.cs h q2.2) C (hR.le (by decide)) (c_X5_readPeople h hq2) (bb_cut_self _ _) bv_X5_readPeople bm_X5_147 rfl rfl rfl rfl (Nat.le_of_ble_eq_true rfl) dX5_city_66 ?_
  refine z_istore (pc := 69) (lv' := [(5, .int q2.1), (0, .ref (h 0)), (1, .int x1), (2, .int x2), (3, .int x3), (4, .int x4)]) C dX5_city_69 (by decide) rfl ?_
  refine z_lv [1, 2, 3, 4, 5, 0] rfl ?_
  exact B_X5_city_71 C hR hr h R  hf
noncomputable def F_X5_city_47 (s0 : bb_O) (x1 : Int32) (x2 : Int32) (x3 : Int32) : Option (Int32 × bb_O) := (F_X5_digit_0 s0 ((0 : Int32)) (x2 - ((1 : Int32)))).bind (fun q1 => F_X5_city_57 q1.2 x1 x2 x3 q1.1)
set_option maxHeartbeats 4000000 in
set_option maxRecDepth 100000 in
theorem B_X5_city_47 {X : bb_X} (C : bb_C X RX5 cX5_city 7) (hR : bb_r X 4) (hr : X.meth.sig.returnType = (some .int)) (h : Nat → Nat) {z : (Int32 × bb_O)} (R : bb_R X (some (.int z.1)) (wX5 X.cs h z.2)) {s0 : bb_O} {x1 : Int32} {x2 : Int32} {x3 : Int32} (hf : F_X5_city_47 s0 x1 x2 x3 = some z) : bb_Z X 7 (wX5 X.cs h s0) 47 [(0, .ref (h 0)), (1, .int x1), (2, .int x2), (3, .int x3)] [] := by
  refine z_aload_n (pc := 47) (i := 0) C 0 dX5_city_47 rfl rfl ?_
  refine z_iconst (pc := 48) C (0 : Int32) dX5_city_48 (by decide) ?_
  refine z_iload_n (pc := 49) (i := 2) C 2 dX5_city_49 rfl rfl ?_
  refine z_iconst (pc := 50) C (1 : Int32) dX5_city_50 (by decide) ?_
  refine z_isub (pc := 51) C dX5_city_51 ?_
  obtain ⟨q1, hq1, hf⟩ := bb_b_some hf
  refine z_callVi (pc := 52) (ci := 5) (q0 := 0) (As := [.int ((0 : Int32)), .int (x2 - ((1 : Int32)))]) (rest := []) (ws' := wX5 X.cs h q1.2) C (hR.le (by decide)) (c_X5_digit h hq1) (bb_cut_self _ _) bv_X5_digit bm_X5_137 rfl rfl rfl rfl (Nat.le_of_ble_eq_true rfl) dX5_city_52 ?_
  refine z_istore (pc := 55) (lv' := [(4, .int q1.1), (0, .ref (h 0)), (1, .int x1), (2, .int x2), (3, .int x3)]) C dX5_city_55 (by decide) rfl ?_
  refine z_lv [1, 2, 3, 4, 0] rfl ?_
  exact B_X5_city_57 C hR hr h R  hf
noncomputable def F_X5_city_32 (s0 : bb_O) (x1 : Int32) (x2 : Int32) : Option (Int32 × bb_O) := (F_X5_sign_0 s0 ((64 : Int32))).bind (fun q1 => (F_X5_digit_0 q1 ((0 : Int32)) (x1 - ((1 : Int32)))).bind (fun q2 => F_X5_city_47 q2.2 x1 x2 q2.1))
set_option maxHeartbeats 4000000 in
set_option maxRecDepth 100000 in
theorem B_X5_city_32 {X : bb_X} (C : bb_C X RX5 cX5_city 7) (hR : bb_r X 4) (hr : X.meth.sig.returnType = (some .int)) (h : Nat → Nat) {z : (Int32 × bb_O)} (R : bb_R X (some (.int z.1)) (wX5 X.cs h z.2)) {s0 : bb_O} {x1 : Int32} {x2 : Int32} (hf : F_X5_city_32 s0 x1 x2 = some z) : bb_Z X 7 (wX5 X.cs h s0) 32 [(0, .ref (h 0)), (1, .int x1), (2, .int x2)] [] := by
  refine z_aload_n (pc := 32) (i := 0) C 0 dX5_city_32 rfl rfl ?_
  refine z_bipush (pc := 33) C (64 : Int32) dX5_city_33 (by decide) ?_
  obtain ⟨q1, hq1, hf⟩ := bb_b_some hf
  refine z_callVv (pc := 35) (ci := 5) (q0 := 0) (As := [.int ((64 : Int32))]) (rest := []) (ws' := wX5 X.cs h q1) C (hR.le (by decide)) (c_X5_sign h hq1) (bb_cut_self _ _) bv_X5_sign bm_X5_143 rfl rfl rfl rfl (Nat.le_of_ble_eq_true rfl) dX5_city_35 ?_
  refine z_aload_n (pc := 38) (i := 0) C 0 dX5_city_38 rfl rfl ?_
  refine z_iconst (pc := 39) C (0 : Int32) dX5_city_39 (by decide) ?_
  refine z_iload_n (pc := 40) (i := 1) C 1 dX5_city_40 rfl rfl ?_
  refine z_iconst (pc := 41) C (1 : Int32) dX5_city_41 (by decide) ?_
  refine z_isub (pc := 42) C dX5_city_42 ?_
  obtain ⟨q2, hq2, hf⟩ := bb_b_some hf
  refine z_callVi (pc := 43) (ci := 5) (q0 := 0) (As := [.int ((0 : Int32)), .int (x1 - ((1 : Int32)))]) (rest := []) (ws' := wX5 X.cs h q2.2) C (hR.le (by decide)) (c_X5_digit h hq2) (bb_cut_self _ _) bv_X5_digit bm_X5_137 rfl rfl rfl rfl (Nat.le_of_ble_eq_true rfl) dX5_city_43 ?_
  refine z_istore_n (pc := 46) (i := 3) (lv' := [(3, .int q2.1), (0, .ref (h 0)), (1, .int x1), (2, .int x2)]) C dX5_city_46 rfl (by decide) rfl ?_
  refine z_lv [1, 2, 3, 0] rfl ?_
  exact B_X5_city_47 C hR hr h R  hf
noncomputable def F_X5_city_18 (s0 : bb_O) (x1 : Int32) : Option (Int32 × bb_O) := (F_X5_sign_0 s0 ((120 : Int32))).bind (fun q1 => (F_X5_digit_0 q1 ((2 : Int32)) ((6 : Int32))).bind (fun q2 => F_X5_city_32 q2.2 x1 q2.1))
set_option maxHeartbeats 4000000 in
set_option maxRecDepth 100000 in
theorem B_X5_city_18 {X : bb_X} (C : bb_C X RX5 cX5_city 7) (hR : bb_r X 4) (hr : X.meth.sig.returnType = (some .int)) (h : Nat → Nat) {z : (Int32 × bb_O)} (R : bb_R X (some (.int z.1)) (wX5 X.cs h z.2)) {s0 : bb_O} {x1 : Int32} (hf : F_X5_city_18 s0 x1 = some z) : bb_Z X 7 (wX5 X.cs h s0) 18 [(0, .ref (h 0)), (1, .int x1)] [] := by
  refine z_aload_n (pc := 18) (i := 0) C 0 dX5_city_18 rfl rfl ?_
  refine z_bipush (pc := 19) C (120 : Int32) dX5_city_19 (by decide) ?_
  obtain ⟨q1, hq1, hf⟩ := bb_b_some hf
  refine z_callVv (pc := 21) (ci := 5) (q0 := 0) (As := [.int ((120 : Int32))]) (rest := []) (ws' := wX5 X.cs h q1) C (hR.le (by decide)) (c_X5_sign h hq1) (bb_cut_self _ _) bv_X5_sign bm_X5_143 rfl rfl rfl rfl (Nat.le_of_ble_eq_true rfl) dX5_city_21 ?_
  refine z_aload_n (pc := 24) (i := 0) C 0 dX5_city_24 rfl rfl ?_
  refine z_iconst (pc := 25) C (2 : Int32) dX5_city_25 (by decide) ?_
  refine z_bipush (pc := 26) C (6 : Int32) dX5_city_26 (by decide) ?_
  obtain ⟨q2, hq2, hf⟩ := bb_b_some hf
  refine z_callVi (pc := 28) (ci := 5) (q0 := 0) (As := [.int ((2 : Int32)), .int ((6 : Int32))]) (rest := []) (ws' := wX5 X.cs h q2.2) C (hR.le (by decide)) (c_X5_digit h hq2) (bb_cut_self _ _) bv_X5_digit bm_X5_137 rfl rfl rfl rfl (Nat.le_of_ble_eq_true rfl) dX5_city_28 ?_
  refine z_istore_n (pc := 31) (i := 2) (lv' := [(2, .int q2.1), (0, .ref (h 0)), (1, .int x1)]) C dX5_city_31 rfl (by decide) rfl ?_
  refine z_lv [1, 2, 0] rfl ?_
  exact B_X5_city_32 C hR hr h R  hf
noncomputable def F_X5_city_10 (s0 : bb_O) : Option (Int32 × bb_O) := (F_X5_digit_0 s0 ((2 : Int32)) ((6 : Int32))).bind (fun q1 => F_X5_city_18 q1.2 q1.1)
set_option maxHeartbeats 4000000 in
set_option maxRecDepth 100000 in
theorem B_X5_city_10 {X : bb_X} (C : bb_C X RX5 cX5_city 7) (hR : bb_r X 4) (hr : X.meth.sig.returnType = (some .int)) (h : Nat → Nat) {z : (Int32 × bb_O)} (R : bb_R X (some (.int z.1)) (wX5 X.cs h z.2)) {s0 : bb_O} (hf : F_X5_city_10 s0 = some z) : bb_Z X 7 (wX5 X.cs h s0) 10 [(0, .ref (h 0))] [] := by
  refine z_aload_n (pc := 10) (i := 0) C 0 dX5_city_10 rfl rfl ?_
  refine z_iconst (pc := 11) C (2 : Int32) dX5_city_11 (by decide) ?_
  refine z_bipush (pc := 12) C (6 : Int32) dX5_city_12 (by decide) ?_
  obtain ⟨q1, hq1, hf⟩ := bb_b_some hf
  refine z_callVi (pc := 14) (ci := 5) (q0 := 0) (As := [.int ((2 : Int32)), .int ((6 : Int32))]) (rest := []) (ws' := wX5 X.cs h q1.2) C (hR.le (by decide)) (c_X5_digit h hq1) (bb_cut_self _ _) bv_X5_digit bm_X5_137 rfl rfl rfl rfl (Nat.le_of_ble_eq_true rfl) dX5_city_14 ?_
  refine z_istore_n (pc := 17) (i := 1) (lv' := [(1, .int q1.1), (0, .ref (h 0))]) C dX5_city_17 rfl (by decide) rfl ?_
  refine z_lv [1, 0] rfl ?_
  exact B_X5_city_18 C hR hr h R  hf
noncomputable def F_X5_city_5 (s0 : bb_O) : Option (Int32 × bb_O) := F_X5_city_10 (bb_sf s0 6 ((0 : Int32)))
set_option maxHeartbeats 4000000 in
set_option maxRecDepth 100000 in
theorem B_X5_city_5 {X : bb_X} (C : bb_C X RX5 cX5_city 7) (hR : bb_r X 4) (hr : X.meth.sig.returnType = (some .int)) (h : Nat → Nat) {z : (Int32 × bb_O)} (R : bb_R X (some (.int z.1)) (wX5 X.cs h z.2)) {s0 : bb_O} (hf : F_X5_city_5 s0 = some z) : bb_Z X 7 (wX5 X.cs h s0) 5 [(0, .ref (h 0))] [] := by
  refine z_aload_n (pc := 5) (i := 0) C 0 dX5_city_5 rfl rfl ?_
  refine z_iconst (pc := 6) C (0 : Int32) dX5_city_6 (by decide) ?_
  refine z_put (pc := 7) (ci := 5) (ty := .boolean) (ws' := wX5 X.cs h (bb_sf s0 6 ((0 : Int32)))) C bi_X5 tyX5_ok nmX5 rfl 0 6 (by decide) rfl bf_X5_124 rfl rfl (bb_nz (Or.inl rfl)) (bb_fz (Or.inl rfl)) rfl (Nat.le_of_ble_eq_true rfl) rfl dX5_city_7 ?_
  exact B_X5_city_10 C hR hr h R  hf
noncomputable def F_X5_city_0 (s0 : bb_O) : Option (Int32 × bb_O) := F_X5_city_5 (bb_sf s0 5 ((0 : Int32)))
set_option maxHeartbeats 4000000 in
set_option maxRecDepth 100000 in
theorem B_X5_city_0 {X : bb_X} (C : bb_C X RX5 cX5_city 7) (hR : bb_r X 4) (hr : X.meth.sig.returnType = (some .int)) (h : Nat → Nat) {z : (Int32 × bb_O)} (R : bb_R X (some (.int z.1)) (wX5 X.cs h z.2)) {s0 : bb_O} (hf : F_X5_city_0 s0 = some z) : bb_Z X 7 (wX5 X.cs h s0) 0 [(0, .ref (h 0))] [] := by
  refine z_aload_n (pc := 0) (i := 0) C 0 dX5_city_0 rfl rfl ?_
  refine z_iconst (pc := 1) C (0 : Int32) dX5_city_1 (by decide) ?_
  refine z_put (pc := 2) (ci := 5) (ty := .int) (ws' := wX5 X.cs h (bb_sf s0 5 ((0 : Int32)))) C bi_X5 tyX5_ok nmX5 rfl 0 5 (by decide) rfl bf_X5_121 rfl rfl rfl rfl rfl (Nat.le_of_ble_eq_true rfl) rfl dX5_city_2 ?_
  exact B_X5_city_5 C hR hr h R  hf
theorem c_X5_city {l : Launch} {D : va_G} {cs : Nat → ClassId} (h : Nat → Nat) {s0 : bb_O} {z : (Int32 × bb_O)} (hf : F_X5_city_0 s0 = some z) : bb_M l yX5_city cX5_city 7 (some .int) 4 D cs [.ref (h 0)] (some (.int z.1)) (wX5 cs h s0) (wX5 cs h z.2) := bb_mg (by decide) rfl (Nat.le_of_ble_eq_true rfl) rfl (fun X hl hD hcs C hR hr R => by
  subst hl
  subst hD
  subst hcs
  exact B_X5_city_0 C hR hr h R hf)
/-! X5_notes: writes, level 2 -/
noncomputable def F_X5_notes_110 (s0 : bb_O) : Option (bb_O) := some s0
set_option maxHeartbeats 4000000 in
set_option maxRecDepth 100000 in
theorem B_X5_notes_110 {X : bb_X} (C : bb_C X RX5 cX5_notes 3) (hR : bb_r X 2) (hr : X.meth.sig.returnType = none) (h : Nat → Nat) {z : (bb_O)} (R : bb_R X none (wX5 X.cs h z)) {s0 : bb_O} (hf : F_X5_notes_110 s0 = some z) : bb_Z X 3 (wX5 X.cs h s0) 110 [] [] := by
  obtain rfl := Option.some.inj hf
  exact z_vret (pc := 110) C hr R dX5_notes_110
noncomputable def F_X5_notes_94 (k55 : bb_O → Int32 → Int32 → Option (bb_O)) (s0 : bb_O) (x1 : Int32) (x2 : Int32) : Option (bb_O) := k55 s0 x1 (x2 + 1)
set_option maxHeartbeats 4000000 in
set_option maxRecDepth 100000 in
theorem B_X5_notes_94 {X : bb_X} (C : bb_C X RX5 cX5_notes 3) (hR : bb_r X 2) (hr : X.meth.sig.returnType = none) (h : Nat → Nat) {z : (bb_O)} (R : bb_R X none (wX5 X.cs h z)) {k55 : bb_O → Int32 → Int32 → Option (bb_O)} (hk55 : ∀ (s0 : bb_O) (x1 : Int32) (x2 : Int32), k55 s0 x1 x2 = some z → bb_Z X 3 (wX5 X.cs h s0) 55 [(0, .ref (h 0)), (1, .int x1), (2, .int x2)] []) {s0 : bb_O} {x1 : Int32} {x2 : Int32} (hf : F_X5_notes_94 k55 s0 x1 x2 = some z) : bb_Z X 3 (wX5 X.cs h s0) 94 [(0, .ref (h 0)), (1, .int x1), (2, .int x2)] [] := by
  refine z_iinc (pc := 94) (lv' := [(2, .int (x2 + 1)), (0, .ref (h 0)), (1, .int x1)]) C (x2 + 1) 2 dX5_notes_94 rfl rfl (by decide) rfl ?_
  refine z_goto (pc := 97) C 55 dX5_notes_97 (by decide) ?_
  refine z_lv [1, 2, 0] rfl ?_
  exact hk55 _ _ _ hf
noncomputable def F_X5_notes_77 (k55 : bb_O → Int32 → Int32 → Option (bb_O)) (s0 : bb_O) (x1 : Int32) (x2 : Int32) : Option (bb_O) := (F_X5_told_0 s0 x2 ((1 : Int32))).bind (fun q1 => bb_g (vp_in ((x1 + ((6 : Int32))) + x2) 96) (F_X5_notes_94 k55 (bb_sA s0 8 (upd (s0.2.1 8) ((x1 + ((6 : Int32))) + x2).toNatClampNeg q1)) x1 x2))
set_option maxHeartbeats 4000000 in
set_option maxRecDepth 100000 in
theorem B_X5_notes_77 {X : bb_X} (C : bb_C X RX5 cX5_notes 3) (hR : bb_r X 2) (hr : X.meth.sig.returnType = none) (h : Nat → Nat) {z : (bb_O)} (R : bb_R X none (wX5 X.cs h z)) {k55 : bb_O → Int32 → Int32 → Option (bb_O)} (hk55 : ∀ (s0 : bb_O) (x1 : Int32) (x2 : Int32), k55 s0 x1 x2 = some z → bb_Z X 3 (wX5 X.cs h s0) 55 [(0, .ref (h 0)), (1, .int x1), (2, .int x2)] []) {s0 : bb_O} {x1 : Int32} {x2 : Int32} (hf : F_X5_notes_77 k55 s0 x1 x2 = some z) : bb_Z X 3 (wX5 X.cs h s0) 77 [(0, .ref (h 0)), (1, .int x1), (2, .int x2)] [] := by
  refine z_aload_n (pc := 77) (i := 0) C 0 dX5_notes_77 rfl rfl ?_
  refine z_get (pc := 78) (ci := 5) C (.ref (h 9)) bi_X5 rfl 0 8 (by decide) rfl bf_X5_19 rfl rfl dX5_notes_78 ?_
  refine z_iload_n (pc := 81) (i := 1) C 1 dX5_notes_81 rfl rfl ?_
  refine z_bipush (pc := 82) C (6 : Int32) dX5_notes_82 (by decide) ?_
  refine z_iadd (pc := 84) C dX5_notes_84 ?_
  refine z_iload_n (pc := 85) (i := 2) C 2 dX5_notes_85 rfl rfl ?_
  refine z_iadd (pc := 86) C dX5_notes_86 ?_
  refine z_aload_n (pc := 87) (i := 0) C 0 dX5_notes_87 rfl rfl ?_
  refine z_iload_n (pc := 88) (i := 2) C 2 dX5_notes_88 rfl rfl ?_
  refine z_iconst (pc := 89) C (1 : Int32) dX5_notes_89 (by decide) ?_
  obtain ⟨q1, hq1, hf⟩ := bb_b_some hf
  refine z_callVi (pc := 90) (ci := 5) (q0 := 0) (As := [.int x2, .int ((1 : Int32))]) (rest := [.int ((x1 + ((6 : Int32))) + x2), .ref (h 9)]) C (hR.le (by decide)) (c_X5_told h hq1) (bb_cut_self _ _) bv_X5_told bm_X5_53 rfl rfl rfl rfl (Nat.le_of_ble_eq_true rfl) dX5_notes_90 ?_
  obtain ⟨hv2, hf⟩ := bb_g_some hf
  refine z_iast (pc := 93) (ws' := wX5 X.cs h (bb_sA s0 8 (upd (s0.2.1 8) ((x1 + ((6 : Int32))) + x2).toNatClampNeg q1))) C 4 0 (((x1 + ((6 : Int32))) + x2).toNatClampNeg) rfl rfl hv2 rfl rfl dX5_notes_93 ?_
  exact B_X5_notes_94 C hR hr h R hk55 hf
noncomputable def G_X5_notes_55 (k55 : bb_O → Int32 → Int32 → Option (bb_O)) (s0 : bb_O) (x1 : Int32) (x2 : Int32) : Option (bb_O) := if ((6 : Int32)) ≤ x2 then (F_X5_notes_110 (bb_sf s0 9 ((s0.1 9) + ((1 : Int32))))) else (bb_g (vp_in (((3 : Int32)) + x2) 39) (bb_g (vp_in (x1 + x2) 96) (F_X5_notes_77 k55 (bb_sA s0 8 (upd (s0.2.1 8) (x1 + x2).toNatClampNeg (s0.2.1 0 (((3 : Int32)) + x2).toNatClampNeg))) x1 x2)))
noncomputable def F_X5_notes_55  : Nat → bb_O → Int32 → Int32 → Option (bb_O)
  | 0, _, _, _ => none
  | n + 1, s0, x1, x2 => G_X5_notes_55  (F_X5_notes_55  n) s0 x1 x2
set_option maxHeartbeats 4000000 in
set_option maxRecDepth 100000 in
theorem A_X5_notes_55 {X : bb_X} (C : bb_C X RX5 cX5_notes 3) (hR : bb_r X 2) (hr : X.meth.sig.returnType = none) (h : Nat → Nat) {z : (bb_O)} (R : bb_R X none (wX5 X.cs h z)) {k55 : bb_O → Int32 → Int32 → Option (bb_O)} (hk55 : ∀ (s0 : bb_O) (x1 : Int32) (x2 : Int32), k55 s0 x1 x2 = some z → bb_Z X 3 (wX5 X.cs h s0) 55 [(0, .ref (h 0)), (1, .int x1), (2, .int x2)] []) {s0 : bb_O} {x1 : Int32} {x2 : Int32} (hf : G_X5_notes_55 k55 s0 x1 x2 = some z) : bb_Z X 3 (wX5 X.cs h s0) 55 [(0, .ref (h 0)), (1, .int x1), (2, .int x2)] [] := by
  refine z_iload_n (pc := 55) (i := 2) C 2 dX5_notes_55 rfl rfl ?_
  refine z_bipush (pc := 56) C (6 : Int32) dX5_notes_56 (by decide) ?_
  refine z_icmp_ge (pc := 58) C 100 dX5_notes_58 (by decide) (fun hc1 => ?_) (fun hc1 => ?_)
  · have hf := bb_t hf hc1
    refine z_aload_n (pc := 100) (i := 0) C 0 dX5_notes_100 rfl rfl ?_
    refine z_dup (pc := 101) C dX5_notes_101 rfl ?_
    refine z_get (pc := 102) (ci := 5) C (.int (s0.1 9)) bi_X5 rfl 0 9 (by decide) rfl bf_X5_45 rfl rfl dX5_notes_102 ?_
    refine z_iconst (pc := 105) C (1 : Int32) dX5_notes_105 (by decide) ?_
    refine z_iadd (pc := 106) C dX5_notes_106 ?_
    refine z_put (pc := 107) (ci := 5) (ty := .int) (ws' := wX5 X.cs h (bb_sf s0 9 ((s0.1 9) + ((1 : Int32))))) C bi_X5 tyX5_ok nmX5 rfl 0 9 (by decide) rfl bf_X5_45 rfl rfl rfl rfl rfl (Nat.le_of_ble_eq_true rfl) rfl dX5_notes_107 ?_
    refine z_lv [] rfl ?_
    exact B_X5_notes_110 C hR hr h R  hf
  · have hf := bb_e hf hc1
    refine z_aload_n (pc := 61) (i := 0) C 0 dX5_notes_61 rfl rfl ?_
    refine z_get (pc := 62) (ci := 5) C (.ref (h 9)) bi_X5 rfl 0 8 (by decide) rfl bf_X5_19 rfl rfl dX5_notes_62 ?_
    refine z_iload_n (pc := 65) (i := 1) C 1 dX5_notes_65 rfl rfl ?_
    refine z_iload_n (pc := 66) (i := 2) C 2 dX5_notes_66 rfl rfl ?_
    refine z_iadd (pc := 67) C dX5_notes_67 ?_
    refine z_aload_n (pc := 68) (i := 0) C 0 dX5_notes_68 rfl rfl ?_
    refine z_get (pc := 69) (ci := 5) C (.ref (h 1)) bi_X5 rfl 0 0 (by decide) rfl bf_X5_7 rfl rfl dX5_notes_69 ?_
    refine z_iconst (pc := 72) C (3 : Int32) dX5_notes_72 (by decide) ?_
    refine z_iload_n (pc := 73) (i := 2) C 2 dX5_notes_73 rfl rfl ?_
    refine z_iadd (pc := 74) C dX5_notes_74 ?_
    obtain ⟨hv2, hf⟩ := bb_g_some hf
    refine z_iald (pc := 75) C 1 0 ((((3 : Int32)) + x2).toNatClampNeg) rfl rfl hv2 rfl dX5_notes_75 ?_
    obtain ⟨hv3, hf⟩ := bb_g_some hf
    refine z_iast (pc := 76) (ws' := wX5 X.cs h (bb_sA s0 8 (upd (s0.2.1 8) (x1 + x2).toNatClampNeg (s0.2.1 0 (((3 : Int32)) + x2).toNatClampNeg)))) C 4 0 ((x1 + x2).toNatClampNeg) rfl rfl hv3 rfl rfl dX5_notes_76 ?_
    exact B_X5_notes_77 C hR hr h R hk55 hf
theorem B_X5_notes_55 {X : bb_X} (C : bb_C X RX5 cX5_notes 3) (hR : bb_r X 2) (hr : X.meth.sig.returnType = none) (h : Nat → Nat) {z : (bb_O)} (R : bb_R X none (wX5 X.cs h z)) : ∀ (n : Nat) (s0 : bb_O) (x1 : Int32) (x2 : Int32), F_X5_notes_55  n s0 x1 x2 = some z → bb_Z X 3 (wX5 X.cs h s0) 55 [(0, .ref (h 0)), (1, .int x1), (2, .int x2)] [] := by
  intro n
  induction n with
  | zero =>
    intro s0 x1 x2 hf
    cases hf
  | succ n ih =>
    intro s0 x1 x2 hf
    exact A_X5_notes_55 C hR hr h R  ih hf
noncomputable def F_X5_notes_45 (s0 : bb_O) : Option (bb_O) := F_X5_notes_55 bb_N s0 (((12 : Int32)) * (s0.1 9)) ((0 : Int32))
set_option maxHeartbeats 4000000 in
set_option maxRecDepth 100000 in
theorem B_X5_notes_45 {X : bb_X} (C : bb_C X RX5 cX5_notes 3) (hR : bb_r X 2) (hr : X.meth.sig.returnType = none) (h : Nat → Nat) {z : (bb_O)} (R : bb_R X none (wX5 X.cs h z)) {s0 : bb_O} (hf : F_X5_notes_45 s0 = some z) : bb_Z X 3 (wX5 X.cs h s0) 45 [(0, .ref (h 0))] [] := by
  refine z_bipush (pc := 45) C (12 : Int32) dX5_notes_45 (by decide) ?_
  refine z_aload_n (pc := 47) (i := 0) C 0 dX5_notes_47 rfl rfl ?_
  refine z_get (pc := 48) (ci := 5) C (.int (s0.1 9)) bi_X5 rfl 0 9 (by decide) rfl bf_X5_45 rfl rfl dX5_notes_48 ?_
  refine z_imul (pc := 51) C dX5_notes_51 ?_
  refine z_istore_n (pc := 52) (i := 1) (lv' := [(1, .int (((12 : Int32)) * (s0.1 9))), (0, .ref (h 0))]) C dX5_notes_52 rfl (by decide) rfl ?_
  refine z_iconst (pc := 53) C (0 : Int32) dX5_notes_53 (by decide) ?_
  refine z_istore_n (pc := 54) (i := 2) (lv' := [(2, .int ((0 : Int32))), (1, .int (((12 : Int32)) * (s0.1 9))), (0, .ref (h 0))]) C dX5_notes_54 rfl (by decide) rfl ?_
  refine z_lv [2, 1, 0] rfl ?_
  exact B_X5_notes_55 C hR hr h R  bb_N _ _ _ hf
noncomputable def F_X5_notes_33 (k12 : bb_O → Int32 → Option (bb_O)) (s0 : bb_O) (x1 : Int32) : Option (bb_O) := k12 s0 (x1 + 1)
set_option maxHeartbeats 4000000 in
set_option maxRecDepth 100000 in
theorem B_X5_notes_33 {X : bb_X} (C : bb_C X RX5 cX5_notes 3) (hR : bb_r X 2) (hr : X.meth.sig.returnType = none) (h : Nat → Nat) {z : (bb_O)} (R : bb_R X none (wX5 X.cs h z)) {k12 : bb_O → Int32 → Option (bb_O)} (hk12 : ∀ (s0 : bb_O) (x1 : Int32), k12 s0 x1 = some z → bb_Z X 3 (wX5 X.cs h s0) 12 [(0, .ref (h 0)), (1, .int x1)] []) {s0 : bb_O} {x1 : Int32} (hf : F_X5_notes_33 k12 s0 x1 = some z) : bb_Z X 3 (wX5 X.cs h s0) 33 [(0, .ref (h 0)), (1, .int x1)] [] := by
  refine z_iinc (pc := 33) (lv' := [(1, .int (x1 + 1)), (0, .ref (h 0))]) C (x1 + 1) 1 dX5_notes_33 rfl rfl (by decide) rfl ?_
  refine z_goto (pc := 36) C 12 dX5_notes_36 (by decide) ?_
  refine z_lv [1, 0] rfl ?_
  exact hk12 _ _ hf
noncomputable def G_X5_notes_12 (k12 : bb_O → Int32 → Option (bb_O)) (s0 : bb_O) (x1 : Int32) : Option (bb_O) := if ((96 : Int32)) ≤ x1 then (F_X5_notes_45 (bb_sf s0 9 ((7 : Int32)))) else (bb_g (vp_in x1 96) (bb_g (vp_in (x1 - ((12 : Int32))) 96) (F_X5_notes_33 k12 (bb_sA s0 8 (upd (s0.2.1 8) (x1 - ((12 : Int32))).toNatClampNeg (s0.2.1 8 x1.toNatClampNeg))) x1)))
noncomputable def F_X5_notes_12  : Nat → bb_O → Int32 → Option (bb_O)
  | 0, _, _ => none
  | n + 1, s0, x1 => G_X5_notes_12  (F_X5_notes_12  n) s0 x1
set_option maxHeartbeats 4000000 in
set_option maxRecDepth 100000 in
theorem A_X5_notes_12 {X : bb_X} (C : bb_C X RX5 cX5_notes 3) (hR : bb_r X 2) (hr : X.meth.sig.returnType = none) (h : Nat → Nat) {z : (bb_O)} (R : bb_R X none (wX5 X.cs h z)) {k12 : bb_O → Int32 → Option (bb_O)} (hk12 : ∀ (s0 : bb_O) (x1 : Int32), k12 s0 x1 = some z → bb_Z X 3 (wX5 X.cs h s0) 12 [(0, .ref (h 0)), (1, .int x1)] []) {s0 : bb_O} {x1 : Int32} (hf : G_X5_notes_12 k12 s0 x1 = some z) : bb_Z X 3 (wX5 X.cs h s0) 12 [(0, .ref (h 0)), (1, .int x1)] [] := by
  refine z_iload_n (pc := 12) (i := 1) C 1 dX5_notes_12 rfl rfl ?_
  refine z_bipush (pc := 13) C (96 : Int32) dX5_notes_13 (by decide) ?_
  refine z_icmp_ge (pc := 15) C 39 dX5_notes_15 (by decide) (fun hc1 => ?_) (fun hc1 => ?_)
  · have hf := bb_t hf hc1
    refine z_aload_n (pc := 39) (i := 0) C 0 dX5_notes_39 rfl rfl ?_
    refine z_bipush (pc := 40) C (7 : Int32) dX5_notes_40 (by decide) ?_
    refine z_put (pc := 42) (ci := 5) (ty := .int) (ws' := wX5 X.cs h (bb_sf s0 9 ((7 : Int32)))) C bi_X5 tyX5_ok nmX5 rfl 0 9 (by decide) rfl bf_X5_45 rfl rfl rfl rfl rfl (Nat.le_of_ble_eq_true rfl) rfl dX5_notes_42 ?_
    refine z_lv [0] rfl ?_
    exact B_X5_notes_45 C hR hr h R  hf
  · have hf := bb_e hf hc1
    refine z_aload_n (pc := 18) (i := 0) C 0 dX5_notes_18 rfl rfl ?_
    refine z_get (pc := 19) (ci := 5) C (.ref (h 9)) bi_X5 rfl 0 8 (by decide) rfl bf_X5_19 rfl rfl dX5_notes_19 ?_
    refine z_iload_n (pc := 22) (i := 1) C 1 dX5_notes_22 rfl rfl ?_
    refine z_bipush (pc := 23) C (12 : Int32) dX5_notes_23 (by decide) ?_
    refine z_isub (pc := 25) C dX5_notes_25 ?_
    refine z_aload_n (pc := 26) (i := 0) C 0 dX5_notes_26 rfl rfl ?_
    refine z_get (pc := 27) (ci := 5) C (.ref (h 9)) bi_X5 rfl 0 8 (by decide) rfl bf_X5_19 rfl rfl dX5_notes_27 ?_
    refine z_iload_n (pc := 30) (i := 1) C 1 dX5_notes_30 rfl rfl ?_
    obtain ⟨hv2, hf⟩ := bb_g_some hf
    refine z_iald (pc := 31) C 4 0 (x1.toNatClampNeg) rfl rfl hv2 rfl dX5_notes_31 ?_
    obtain ⟨hv3, hf⟩ := bb_g_some hf
    refine z_iast (pc := 32) (ws' := wX5 X.cs h (bb_sA s0 8 (upd (s0.2.1 8) (x1 - ((12 : Int32))).toNatClampNeg (s0.2.1 8 x1.toNatClampNeg)))) C 4 0 ((x1 - ((12 : Int32))).toNatClampNeg) rfl rfl hv3 rfl rfl dX5_notes_32 ?_
    exact B_X5_notes_33 C hR hr h R hk12 hf
theorem B_X5_notes_12 {X : bb_X} (C : bb_C X RX5 cX5_notes 3) (hR : bb_r X 2) (hr : X.meth.sig.returnType = none) (h : Nat → Nat) {z : (bb_O)} (R : bb_R X none (wX5 X.cs h z)) : ∀ (n : Nat) (s0 : bb_O) (x1 : Int32), F_X5_notes_12  n s0 x1 = some z → bb_Z X 3 (wX5 X.cs h s0) 12 [(0, .ref (h 0)), (1, .int x1)] [] := by
  intro n
  induction n with
  | zero =>
    intro s0 x1 hf
    cases hf
  | succ n ih =>
    intro s0 x1 hf
    exact A_X5_notes_12 C hR hr h R  ih hf
noncomputable def F_X5_notes_0 (s0 : bb_O) : Option (bb_O) := if (s0.1 9) = ((8 : Int32)) then (F_X5_notes_12 bb_N s0 ((12 : Int32))) else (F_X5_notes_45 s0)
set_option maxHeartbeats 4000000 in
set_option maxRecDepth 100000 in
theorem B_X5_notes_0 {X : bb_X} (C : bb_C X RX5 cX5_notes 3) (hR : bb_r X 2) (hr : X.meth.sig.returnType = none) (h : Nat → Nat) {z : (bb_O)} (R : bb_R X none (wX5 X.cs h z)) {s0 : bb_O} (hf : F_X5_notes_0 s0 = some z) : bb_Z X 3 (wX5 X.cs h s0) 0 [(0, .ref (h 0))] [] := by
  refine z_aload_n (pc := 0) (i := 0) C 0 dX5_notes_0 rfl rfl ?_
  refine z_get (pc := 1) (ci := 5) C (.int (s0.1 9)) bi_X5 rfl 0 9 (by decide) rfl bf_X5_45 rfl rfl dX5_notes_1 ?_
  refine z_bipush (pc := 4) C (8 : Int32) dX5_notes_4 (by decide) ?_
  refine z_icmp_ne (pc := 6) C 45 dX5_notes_6 (by decide) (fun hc1 => ?_) (fun hc1 => ?_)
  · have hf := bb_e hf hc1
    exact B_X5_notes_45 C hR hr h R  hf
  · have hf := bb_t hf hc1
    refine z_bipush (pc := 9) C (12 : Int32) dX5_notes_9 (by decide) ?_
    refine z_istore_n (pc := 11) (i := 1) (lv' := [(1, .int ((12 : Int32))), (0, .ref (h 0))]) C dX5_notes_11 rfl (by decide) rfl ?_
    refine z_lv [1, 0] rfl ?_
    exact B_X5_notes_12 C hR hr h R  bb_N _ _ hf
theorem c_X5_notes {l : Launch} {D : va_G} {cs : Nat → ClassId} (h : Nat → Nat) {s0 : bb_O} {z : (bb_O)} (hf : F_X5_notes_0 s0 = some z) : bb_M l yX5_notes cX5_notes 3 none 2 D cs [.ref (h 0)] none (wX5 cs h s0) (wX5 cs h z) := bb_mg (by decide) rfl (Nat.le_of_ble_eq_true rfl) rfl (fun X hl hD hcs C hR hr R => by
  subst hl
  subst hD
  subst hcs
  exact B_X5_notes_0 C hR hr h R hf)
/-! X5_minutes: writes, level 6 -/
noncomputable def F_X5_minutes_47 (k33 : bb_O → Int32 → Int32 → Option (Int32 × bb_O)) (s0 : bb_O) (x1 : Int32) (x2 : Int32) : Option (Int32 × bb_O) := k33 s0 x1 (x2 + 1)
set_option maxHeartbeats 4000000 in
set_option maxRecDepth 100000 in
theorem B_X5_minutes_47 {X : bb_X} (C : bb_C X RX5 cX5_minutes 3) (hR : bb_r X 6) (hr : X.meth.sig.returnType = (some .int)) (h : Nat → Nat) {z : (Int32 × bb_O)} (R : bb_R X (some (.int z.1)) (wX5 X.cs h z.2)) {k33 : bb_O → Int32 → Int32 → Option (Int32 × bb_O)} (hk33 : ∀ (s0 : bb_O) (x1 : Int32) (x2 : Int32), k33 s0 x1 x2 = some z → bb_Z X 3 (wX5 X.cs h s0) 33 [(0, .ref (h 0)), (1, .int x1), (2, .int x2)] []) {s0 : bb_O} {x1 : Int32} {x2 : Int32} (hf : F_X5_minutes_47 k33 s0 x1 x2 = some z) : bb_Z X 3 (wX5 X.cs h s0) 47 [(0, .ref (h 0)), (1, .int x1), (2, .int x2)] [] := by
  refine z_iinc (pc := 47) (lv' := [(2, .int (x2 + 1)), (0, .ref (h 0)), (1, .int x1)]) C (x2 + 1) 2 dX5_minutes_47 rfl rfl (by decide) rfl ?_
  refine z_goto (pc := 50) C 33 dX5_minutes_50 (by decide) ?_
  refine z_lv [1, 2, 0] rfl ?_
  exact hk33 _ _ _ hf
noncomputable def G_X5_minutes_33 (k33 : bb_O → Int32 → Int32 → Option (Int32 × bb_O)) (s0 : bb_O) (x1 : Int32) (x2 : Int32) : Option (Int32 × bb_O) := if x1 ≤ x2 then (some (s0.2.1 0 5, s0)) else ((F_X5_notes_0 s0).bind (fun q2 => (F_X5_goesBy_0 q2).bind (fun q3 => F_X5_minutes_47 k33 q3.2 x1 x2)))
noncomputable def F_X5_minutes_33  : Nat → bb_O → Int32 → Int32 → Option (Int32 × bb_O)
  | 0, _, _, _ => none
  | n + 1, s0, x1, x2 => G_X5_minutes_33  (F_X5_minutes_33  n) s0 x1 x2
set_option maxHeartbeats 4000000 in
set_option maxRecDepth 100000 in
theorem A_X5_minutes_33 {X : bb_X} (C : bb_C X RX5 cX5_minutes 3) (hR : bb_r X 6) (hr : X.meth.sig.returnType = (some .int)) (h : Nat → Nat) {z : (Int32 × bb_O)} (R : bb_R X (some (.int z.1)) (wX5 X.cs h z.2)) {k33 : bb_O → Int32 → Int32 → Option (Int32 × bb_O)} (hk33 : ∀ (s0 : bb_O) (x1 : Int32) (x2 : Int32), k33 s0 x1 x2 = some z → bb_Z X 3 (wX5 X.cs h s0) 33 [(0, .ref (h 0)), (1, .int x1), (2, .int x2)] []) {s0 : bb_O} {x1 : Int32} {x2 : Int32} (hf : G_X5_minutes_33 k33 s0 x1 x2 = some z) : bb_Z X 3 (wX5 X.cs h s0) 33 [(0, .ref (h 0)), (1, .int x1), (2, .int x2)] [] := by
  refine z_iload_n (pc := 33) (i := 2) C 2 dX5_minutes_33 rfl rfl ?_
  refine z_iload_n (pc := 34) (i := 1) C 1 dX5_minutes_34 rfl rfl ?_
  refine z_icmp_ge (pc := 35) C 53 dX5_minutes_35 (by decide) (fun hc1 => ?_) (fun hc1 => ?_)
  · have hf := bb_t hf hc1
    refine z_aload_n (pc := 53) (i := 0) C 0 dX5_minutes_53 rfl rfl ?_
    refine z_get (pc := 54) (ci := 5) C (.ref (h 1)) bi_X5 rfl 0 0 (by decide) rfl bf_X5_7 rfl rfl dX5_minutes_54 ?_
    refine z_iconst (pc := 57) C (5 : Int32) dX5_minutes_57 (by decide) ?_
    refine z_iald (pc := 58) C 1 0 (5) rfl rfl (show ¬ ((5 : Int32) < 0 ∨ 39 ≤ (5 : Int32).toNatClampNeg) by decide) (by decide) dX5_minutes_58 ?_
    obtain rfl := Option.some.inj hf
    exact z_iret (pc := 59) C hr R dX5_minutes_59
  · have hf := bb_e hf hc1
    refine z_aload_n (pc := 38) (i := 0) C 0 dX5_minutes_38 rfl rfl ?_
    obtain ⟨q2, hq2, hf⟩ := bb_b_some hf
    refine z_callVv (pc := 39) (ci := 5) (q0 := 0) (As := []) (rest := []) (ws' := wX5 X.cs h q2) C (hR.le (by decide)) (c_X5_notes h hq2) (bb_cut_self _ _) bv_X5_notes bm_X5_152 rfl rfl rfl rfl (Nat.le_of_ble_eq_true rfl) dX5_minutes_39 ?_
    refine z_aload_n (pc := 42) (i := 0) C 0 dX5_minutes_42 rfl rfl ?_
    obtain ⟨q3, hq3, hf⟩ := bb_b_some hf
    refine z_callVi (pc := 43) (ci := 5) (q0 := 0) (As := []) (rest := []) (ws' := wX5 X.cs h q3.2) C (hR.le (by decide)) (c_X5_goesBy h hq3) (bb_cut_self _ _) bv_X5_goesBy bm_X5_155 rfl rfl rfl rfl (Nat.le_of_ble_eq_true rfl) dX5_minutes_43 ?_
    refine z_pop (pc := 46) C dX5_minutes_46 rfl ?_
    exact B_X5_minutes_47 C hR hr h R hk33 hf
theorem B_X5_minutes_33 {X : bb_X} (C : bb_C X RX5 cX5_minutes 3) (hR : bb_r X 6) (hr : X.meth.sig.returnType = (some .int)) (h : Nat → Nat) {z : (Int32 × bb_O)} (R : bb_R X (some (.int z.1)) (wX5 X.cs h z.2)) : ∀ (n : Nat) (s0 : bb_O) (x1 : Int32) (x2 : Int32), F_X5_minutes_33  n s0 x1 x2 = some z → bb_Z X 3 (wX5 X.cs h s0) 33 [(0, .ref (h 0)), (1, .int x1), (2, .int x2)] [] := by
  intro n
  induction n with
  | zero =>
    intro s0 x1 x2 hf
    cases hf
  | succ n ih =>
    intro s0 x1 x2 hf
    exact A_X5_minutes_33 C hR hr h R  ih hf
noncomputable def F_X5_minutes_0 (s0 : bb_O) (x1 : Int32) : Option (Int32 × bb_O) := (F_X5_in_0 (x1.toInt64) ((1 : Int64)) ((40 : Int64))).bind (fun q1 => if q1 = 0 then (some ((-1 : Int32), s0)) else (if ((s0.2.1 0 4) + x1) ≤ ((9999 : Int32)) then (F_X5_minutes_33 bb_N s0 x1 ((0 : Int32))) else (some ((-3 : Int32), s0))))
set_option maxHeartbeats 4000000 in
set_option maxRecDepth 100000 in
theorem B_X5_minutes_0 {X : bb_X} (C : bb_C X RX5 cX5_minutes 3) (hR : bb_r X 6) (hr : X.meth.sig.returnType = (some .int)) (h : Nat → Nat) {z : (Int32 × bb_O)} (R : bb_R X (some (.int z.1)) (wX5 X.cs h z.2)) {s0 : bb_O} {x1 : Int32} (hf : F_X5_minutes_0 s0 x1 = some z) : bb_Z X 3 (wX5 X.cs h s0) 0 [(0, .ref (h 0)), (1, .int x1)] [] := by
  refine z_iload_n (pc := 0) (i := 1) C 1 dX5_minutes_0 rfl rfl ?_
  refine z_i2l (pc := 1) C dX5_minutes_1 ?_
  refine z_lconst (pc := 2) C (1 : Int64) dX5_minutes_2 (by decide) ?_
  refine z_ldc2_w (pc := 3) C bk_X5_150 dX5_minutes_3 ?_
  obtain ⟨q1, hq1, hf⟩ := bb_b_some hf
  refine z_callSi (pc := 6) (As := [.long (x1.toInt64), .long ((1 : Int64)), .long ((40 : Int64))]) (rest := []) C (hR.le (by decide)) (c_X5_in hq1) (bb_cut_none _) bv_X5_in bm_X5_49 rfl rfl (Nat.le_of_ble_eq_true rfl) dX5_minutes_6 ?_
  refine z_if_ne (pc := 9) C 14 dX5_minutes_9 (by decide) (fun hc2 => ?_) (fun hc2 => ?_)
  · have hf := bb_e hf hc2
    refine z_aload_n (pc := 14) (i := 0) C 0 dX5_minutes_14 rfl rfl ?_
    refine z_get (pc := 15) (ci := 5) C (.ref (h 1)) bi_X5 rfl 0 0 (by decide) rfl bf_X5_7 rfl rfl dX5_minutes_15 ?_
    refine z_iconst (pc := 18) C (4 : Int32) dX5_minutes_18 (by decide) ?_
    refine z_iald (pc := 19) C 1 0 (4) rfl rfl (show ¬ ((4 : Int32) < 0 ∨ 39 ≤ (4 : Int32).toNatClampNeg) by decide) (by decide) dX5_minutes_19 ?_
    refine z_iload_n (pc := 20) (i := 1) C 1 dX5_minutes_20 rfl rfl ?_
    refine z_iadd (pc := 21) C dX5_minutes_21 ?_
    refine z_sipush (pc := 22) C (9999 : Int32) dX5_minutes_22 (by decide) ?_
    refine z_icmp_le (pc := 25) C 31 dX5_minutes_25 (by decide) (fun hc3 => ?_) (fun hc3 => ?_)
    · have hf := bb_t hf hc3
      refine z_iconst (pc := 31) C (0 : Int32) dX5_minutes_31 (by decide) ?_
      refine z_istore_n (pc := 32) (i := 2) (lv' := [(2, .int ((0 : Int32))), (0, .ref (h 0)), (1, .int x1)]) C dX5_minutes_32 rfl (by decide) rfl ?_
      refine z_lv [1, 2, 0] rfl ?_
      exact B_X5_minutes_33 C hR hr h R  bb_N _ _ _ hf
    · have hf := bb_e hf hc3
      refine z_bipush (pc := 28) C (-3 : Int32) dX5_minutes_28 (by decide) ?_
      obtain rfl := Option.some.inj hf
      exact z_iret (pc := 30) C hr R dX5_minutes_30
  · have hf := bb_t hf hc2
    refine z_iconst (pc := 12) C (-1 : Int32) dX5_minutes_12 (by decide) ?_
    obtain rfl := Option.some.inj hf
    exact z_iret (pc := 13) C hr R dX5_minutes_13
theorem c_X5_minutes {l : Launch} {D : va_G} {cs : Nat → ClassId} (h : Nat → Nat) {s0 : bb_O} {x1 : Int32} {z : (Int32 × bb_O)} (hf : F_X5_minutes_0 s0 x1 = some z) : bb_M l yX5_minutes cX5_minutes 3 (some .int) 6 D cs [.ref (h 0), .int x1] (some (.int z.1)) (wX5 cs h s0) (wX5 cs h z.2) := bb_mg (by decide) rfl (Nat.le_of_ble_eq_true rfl) rfl (fun X hl hD hcs C hR hr R => by
  subst hl
  subst hD
  subst hcs
  exact B_X5_minutes_0 C hR hr h R hf)
/-! X5_beside: reads, level 2 -/
noncomputable def F_X5_beside_101 (s0 : bb_O) (y0 : Int32) : Option Int32 := some y0
set_option maxHeartbeats 4000000 in
set_option maxRecDepth 100000 in
theorem B_X5_beside_101 {X : bb_X} (C : bb_C X RX5 cX5_beside 6) (hR : bb_r X 2) (hr : X.meth.sig.returnType = (some .int)) (h : Nat → Nat) {z : Int32} {s0 : bb_O} (R : bb_R X (some (.int z)) (wX5 X.cs h s0)) {y0 : Int32} (hf : F_X5_beside_101 s0 y0 = some z) : bb_Z X 6 (wX5 X.cs h s0) 101 [] [.int y0] := by
  obtain rfl := Option.some.inj hf
  exact z_iret (pc := 101) C hr R dX5_beside_101
noncomputable def F_X5_beside_99 (s0 : bb_O) : Option Int32 := F_X5_beside_101 s0 ((-4 : Int32))
set_option maxHeartbeats 4000000 in
set_option maxRecDepth 100000 in
theorem B_X5_beside_99 {X : bb_X} (C : bb_C X RX5 cX5_beside 6) (hR : bb_r X 2) (hr : X.meth.sig.returnType = (some .int)) (h : Nat → Nat) {z : Int32} {s0 : bb_O} (R : bb_R X (some (.int z)) (wX5 X.cs h s0))  (hf : F_X5_beside_99 s0 = some z) : bb_Z X 6 (wX5 X.cs h s0) 99 [] [] := by
  refine z_bipush (pc := 99) C (-4 : Int32) dX5_beside_99 (by decide) ?_
  exact B_X5_beside_101 C hR hr h R  hf
noncomputable def F_X5_beside_53 (s0 : bb_O) (x3 : Int32) (x4 : Int32) (y0 : Int32) (y1 : Int32) : Option Int32 := (F_X5_in_0 (x4.toInt64) ((0 : Int64)) (((s0.2.1 0 0) - ((1 : Int32))).toInt64)).bind (fun q1 => if q1 = 0 then (F_X5_beside_99 s0) else ((F_X5_in_0 ((y1 + y0).toInt64) ((0 : Int64)) ((x3 - ((1 : Int32))).toInt64)).bind (fun q3 => if q3 = 0 then (F_X5_beside_99 s0) else (F_X5_beside_101 s0 ((x4 * x3) + (y1 + y0))))))
set_option maxHeartbeats 4000000 in
set_option maxRecDepth 100000 in
theorem B_X5_beside_53 {X : bb_X} (C : bb_C X RX5 cX5_beside 6) (hR : bb_r X 2) (hr : X.meth.sig.returnType = (some .int)) (h : Nat → Nat) {z : Int32} {s0 : bb_O} (R : bb_R X (some (.int z)) (wX5 X.cs h s0)) {x3 : Int32} {x4 : Int32} {y0 : Int32} {y1 : Int32} (hf : F_X5_beside_53 s0 x3 x4 y0 y1 = some z) : bb_Z X 6 (wX5 X.cs h s0) 53 [(0, .ref (h 0)), (3, .int x3), (4, .int x4)] [.int y0, .int y1] := by
  refine z_iadd (pc := 53) C dX5_beside_53 ?_
  refine z_istore (pc := 54) (lv' := [(5, .int (y1 + y0)), (0, .ref (h 0)), (3, .int x3), (4, .int x4)]) C dX5_beside_54 (by decide) rfl ?_
  refine z_iload (pc := 56) C 3 dX5_beside_56 rfl ?_
  refine z_i2l (pc := 58) C dX5_beside_58 ?_
  refine z_lconst (pc := 59) C (0 : Int64) dX5_beside_59 (by decide) ?_
  refine z_aload_n (pc := 60) (i := 0) C 1 dX5_beside_60 rfl rfl ?_
  refine z_get (pc := 61) (ci := 5) C (.ref (h 1)) bi_X5 rfl 0 0 (by decide) rfl bf_X5_7 rfl rfl dX5_beside_61 ?_
  refine z_iconst (pc := 64) C (0 : Int32) dX5_beside_64 (by decide) ?_
  refine z_iald (pc := 65) C 1 0 (0) rfl rfl (show ¬ ((0 : Int32) < 0 ∨ 39 ≤ (0 : Int32).toNatClampNeg) by decide) (by decide) dX5_beside_65 ?_
  refine z_iconst (pc := 66) C (1 : Int32) dX5_beside_66 (by decide) ?_
  refine z_isub (pc := 67) C dX5_beside_67 ?_
  refine z_i2l (pc := 68) C dX5_beside_68 ?_
  obtain ⟨q1, hq1, hf⟩ := bb_b_some hf
  refine z_callSi (pc := 69) (As := [.long (x4.toInt64), .long ((0 : Int64)), .long (((s0.2.1 0 0) - ((1 : Int32))).toInt64)]) (rest := []) C (hR.le (by decide)) (c_X5_in hq1) (bb_cut_none _) bv_X5_in bm_X5_49 rfl rfl (Nat.le_of_ble_eq_true rfl) dX5_beside_69 ?_
  refine z_if_eq (pc := 72) C 99 dX5_beside_72 (by decide) (fun hc2 => ?_) (fun hc2 => ?_)
  · have hf := bb_t hf hc2
    refine z_lv [] rfl ?_
    exact B_X5_beside_99 C hR hr h R  hf
  · have hf := bb_e hf hc2
    refine z_iload (pc := 75) C 0 dX5_beside_75 rfl ?_
    refine z_i2l (pc := 77) C dX5_beside_77 ?_
    refine z_lconst (pc := 78) C (0 : Int64) dX5_beside_78 (by decide) ?_
    refine z_iload_n (pc := 79) (i := 3) C 2 dX5_beside_79 rfl rfl ?_
    refine z_iconst (pc := 80) C (1 : Int32) dX5_beside_80 (by decide) ?_
    refine z_isub (pc := 81) C dX5_beside_81 ?_
    refine z_i2l (pc := 82) C dX5_beside_82 ?_
    obtain ⟨q3, hq3, hf⟩ := bb_b_some hf
    refine z_callSi (pc := 83) (As := [.long ((y1 + y0).toInt64), .long ((0 : Int64)), .long ((x3 - ((1 : Int32))).toInt64)]) (rest := []) C (hR.le (by decide)) (c_X5_in hq3) (bb_cut_none _) bv_X5_in bm_X5_49 rfl rfl (Nat.le_of_ble_eq_true rfl) dX5_beside_83 ?_
    refine z_if_eq (pc := 86) C 99 dX5_beside_86 (by decide) (fun hc4 => ?_) (fun hc4 => ?_)
    · have hf := bb_t hf hc4
      refine z_lv [] rfl ?_
      exact B_X5_beside_99 C hR hr h R  hf
    · have hf := bb_e hf hc4
      refine z_iload (pc := 89) C 3 dX5_beside_89 rfl ?_
      refine z_iload_n (pc := 91) (i := 3) C 2 dX5_beside_91 rfl rfl ?_
      refine z_imul (pc := 92) C dX5_beside_92 ?_
      refine z_iload (pc := 93) C 0 dX5_beside_93 rfl ?_
      refine z_iadd (pc := 95) C dX5_beside_95 ?_
      refine z_goto (pc := 96) C 101 dX5_beside_96 (by decide) ?_
      refine z_lv [] rfl ?_
      exact B_X5_beside_101 C hR hr h R  hf
noncomputable def F_X5_beside_28 (s0 : bb_O) (x1 : Int32) (x2 : Int32) (x3 : Int32) (y0 : Int32) (y1 : Int32) : Option Int32 := bb_g (¬ x3 = 0) (if x2 = ((2 : Int32)) then (F_X5_beside_53 s0 x3 (y1 + y0) ((-1 : Int32)) (x1 % x3)) else (if x2 = ((3 : Int32)) then (F_X5_beside_53 s0 x3 (y1 + y0) ((1 : Int32)) (x1 % x3)) else (F_X5_beside_53 s0 x3 (y1 + y0) ((0 : Int32)) (x1 % x3))))
set_option maxHeartbeats 4000000 in
set_option maxRecDepth 100000 in
theorem B_X5_beside_28 {X : bb_X} (C : bb_C X RX5 cX5_beside 6) (hR : bb_r X 2) (hr : X.meth.sig.returnType = (some .int)) (h : Nat → Nat) {z : Int32} {s0 : bb_O} (R : bb_R X (some (.int z)) (wX5 X.cs h s0)) {x1 : Int32} {x2 : Int32} {x3 : Int32} {y0 : Int32} {y1 : Int32} (hf : F_X5_beside_28 s0 x1 x2 x3 y0 y1 = some z) : bb_Z X 6 (wX5 X.cs h s0) 28 [(0, .ref (h 0)), (1, .int x1), (2, .int x2), (3, .int x3)] [.int y0, .int y1] := by
  refine z_iadd (pc := 28) C dX5_beside_28 ?_
  refine z_istore (pc := 29) (lv' := [(4, .int (y1 + y0)), (0, .ref (h 0)), (1, .int x1), (2, .int x2), (3, .int x3)]) C dX5_beside_29 (by decide) rfl ?_
  refine z_iload_n (pc := 31) (i := 1) C 2 dX5_beside_31 rfl rfl ?_
  refine z_iload_n (pc := 32) (i := 3) C 4 dX5_beside_32 rfl rfl ?_
  obtain ⟨hn1, hf⟩ := bb_g_some hf
  refine z_irem (pc := 33) C dX5_beside_33 hn1 ?_
  refine z_iload_n (pc := 34) (i := 2) C 3 dX5_beside_34 rfl rfl ?_
  refine z_iconst (pc := 35) C (2 : Int32) dX5_beside_35 (by decide) ?_
  refine z_icmp_ne (pc := 36) C 43 dX5_beside_36 (by decide) (fun hc2 => ?_) (fun hc2 => ?_)
  · have hf := bb_e hf hc2
    refine z_iload_n (pc := 43) (i := 2) C 3 dX5_beside_43 rfl rfl ?_
    refine z_iconst (pc := 44) C (3 : Int32) dX5_beside_44 (by decide) ?_
    refine z_icmp_ne (pc := 45) C 52 dX5_beside_45 (by decide) (fun hc3 => ?_) (fun hc3 => ?_)
    · have hf := bb_e hf hc3
      refine z_iconst (pc := 52) C (0 : Int32) dX5_beside_52 (by decide) ?_
      refine z_lv [1, 4, 0] rfl ?_
      exact B_X5_beside_53 C hR hr h R  hf
    · have hf := bb_t hf hc3
      refine z_iconst (pc := 48) C (1 : Int32) dX5_beside_48 (by decide) ?_
      refine z_goto (pc := 49) C 53 dX5_beside_49 (by decide) ?_
      refine z_lv [1, 4, 0] rfl ?_
      exact B_X5_beside_53 C hR hr h R  hf
  · have hf := bb_t hf hc2
    refine z_iconst (pc := 39) C (-1 : Int32) dX5_beside_39 (by decide) ?_
    refine z_goto (pc := 40) C 53 dX5_beside_40 (by decide) ?_
    refine z_lv [1, 4, 0] rfl ?_
    exact B_X5_beside_53 C hR hr h R  hf
noncomputable def F_X5_beside_0 (s0 : bb_O) (x1 : Int32) (x2 : Int32) : Option Int32 := bb_g (¬ (s0.2.1 0 1) = 0) (if x2 = 0 then (F_X5_beside_28 s0 x1 x2 (s0.2.1 0 1) ((-1 : Int32)) (x1 / (s0.2.1 0 1))) else (if x2 = ((1 : Int32)) then (F_X5_beside_28 s0 x1 x2 (s0.2.1 0 1) ((1 : Int32)) (x1 / (s0.2.1 0 1))) else (F_X5_beside_28 s0 x1 x2 (s0.2.1 0 1) ((0 : Int32)) (x1 / (s0.2.1 0 1)))))
set_option maxHeartbeats 4000000 in
set_option maxRecDepth 100000 in
theorem B_X5_beside_0 {X : bb_X} (C : bb_C X RX5 cX5_beside 6) (hR : bb_r X 2) (hr : X.meth.sig.returnType = (some .int)) (h : Nat → Nat) {z : Int32} {s0 : bb_O} (R : bb_R X (some (.int z)) (wX5 X.cs h s0)) {x1 : Int32} {x2 : Int32} (hf : F_X5_beside_0 s0 x1 x2 = some z) : bb_Z X 6 (wX5 X.cs h s0) 0 [(0, .ref (h 0)), (1, .int x1), (2, .int x2)] [] := by
  refine z_aload_n (pc := 0) (i := 0) C 0 dX5_beside_0 rfl rfl ?_
  refine z_get (pc := 1) (ci := 5) C (.ref (h 1)) bi_X5 rfl 0 0 (by decide) rfl bf_X5_7 rfl rfl dX5_beside_1 ?_
  refine z_iconst (pc := 4) C (1 : Int32) dX5_beside_4 (by decide) ?_
  refine z_iald (pc := 5) C 1 0 (1) rfl rfl (show ¬ ((1 : Int32) < 0 ∨ 39 ≤ (1 : Int32).toNatClampNeg) by decide) (by decide) dX5_beside_5 ?_
  refine z_istore_n (pc := 6) (i := 3) (lv' := [(3, .int (s0.2.1 0 1)), (0, .ref (h 0)), (1, .int x1), (2, .int x2)]) C dX5_beside_6 rfl (by decide) rfl ?_
  refine z_iload_n (pc := 7) (i := 1) C 2 dX5_beside_7 rfl rfl ?_
  refine z_iload_n (pc := 8) (i := 3) C 0 dX5_beside_8 rfl rfl ?_
  obtain ⟨hn1, hf⟩ := bb_g_some hf
  refine z_idiv (pc := 9) C dX5_beside_9 hn1 ?_
  refine z_iload_n (pc := 10) (i := 2) C 3 dX5_beside_10 rfl rfl ?_
  refine z_if_ne (pc := 11) C 18 dX5_beside_11 (by decide) (fun hc2 => ?_) (fun hc2 => ?_)
  · have hf := bb_e hf hc2
    refine z_iload_n (pc := 18) (i := 2) C 3 dX5_beside_18 rfl rfl ?_
    refine z_iconst (pc := 19) C (1 : Int32) dX5_beside_19 (by decide) ?_
    refine z_icmp_ne (pc := 20) C 27 dX5_beside_20 (by decide) (fun hc3 => ?_) (fun hc3 => ?_)
    · have hf := bb_e hf hc3
      refine z_iconst (pc := 27) C (0 : Int32) dX5_beside_27 (by decide) ?_
      refine z_lv [1, 2, 3, 0] rfl ?_
      exact B_X5_beside_28 C hR hr h R  hf
    · have hf := bb_t hf hc3
      refine z_iconst (pc := 23) C (1 : Int32) dX5_beside_23 (by decide) ?_
      refine z_goto (pc := 24) C 28 dX5_beside_24 (by decide) ?_
      refine z_lv [1, 2, 3, 0] rfl ?_
      exact B_X5_beside_28 C hR hr h R  hf
  · have hf := bb_t hf hc2
    refine z_iconst (pc := 14) C (-1 : Int32) dX5_beside_14 (by decide) ?_
    refine z_goto (pc := 15) C 28 dX5_beside_15 (by decide) ?_
    refine z_lv [1, 2, 3, 0] rfl ?_
    exact B_X5_beside_28 C hR hr h R  hf
theorem c_X5_beside {l : Launch} {D : va_G} {cs : Nat → ClassId} (h : Nat → Nat) {s0 : bb_O} {x1 : Int32} {x2 : Int32} {z : Int32} (hf : F_X5_beside_0 s0 x1 x2 = some z) : bb_M l yX5_beside cX5_beside 6 (some .int) 2 D cs [.ref (h 0), .int x1, .int x2] (some (.int z)) (wX5 cs h s0) (wX5 cs h s0) := bb_mg (by decide) rfl (Nat.le_of_ble_eq_true rfl) rfl (fun X hl hD hcs C hR hr R => by
  subst hl
  subst hD
  subst hcs
  exact B_X5_beside_0 C hR hr h R hf)
/-! X5_walk: writes, level 3 -/
noncomputable def F_X5_walk_20 (s0 : bb_O) : Option (Int32 × bb_O) := some ((-1 : Int32), s0)
set_option maxHeartbeats 4000000 in
set_option maxRecDepth 100000 in
theorem B_X5_walk_20 {X : bb_X} (C : bb_C X RX5 cX5_walk 4) (hR : bb_r X 3) (hr : X.meth.sig.returnType = (some .int)) (h : Nat → Nat) {z : (Int32 × bb_O)} (R : bb_R X (some (.int z.1)) (wX5 X.cs h z.2)) {s0 : bb_O} (hf : F_X5_walk_20 s0 = some z) : bb_Z X 4 (wX5 X.cs h s0) 20 [] [] := by
  refine z_iconst (pc := 20) C (-1 : Int32) dX5_walk_20 (by decide) ?_
  obtain rfl := Option.some.inj hf
  exact z_iret (pc := 21) C hr R dX5_walk_21
noncomputable def F_X5_walk_48 (s0 : bb_O) : Option (Int32 × bb_O) := some ((-2 : Int32), s0)
set_option maxHeartbeats 4000000 in
set_option maxRecDepth 100000 in
theorem B_X5_walk_48 {X : bb_X} (C : bb_C X RX5 cX5_walk 4) (hR : bb_r X 3) (hr : X.meth.sig.returnType = (some .int)) (h : Nat → Nat) {z : (Int32 × bb_O)} (R : bb_R X (some (.int z.1)) (wX5 X.cs h z.2)) {s0 : bb_O} (hf : F_X5_walk_48 s0 = some z) : bb_Z X 4 (wX5 X.cs h s0) 48 [] [] := by
  refine z_bipush (pc := 48) C (-2 : Int32) dX5_walk_48 (by decide) ?_
  obtain rfl := Option.some.inj hf
  exact z_iret (pc := 50) C hr R dX5_walk_50
noncomputable def F_X5_walk_69 (s0 : bb_O) (x3 : Int32) : Option (Int32 × bb_O) := some (x3, s0)
set_option maxHeartbeats 4000000 in
set_option maxRecDepth 100000 in
theorem B_X5_walk_69 {X : bb_X} (C : bb_C X RX5 cX5_walk 4) (hR : bb_r X 3) (hr : X.meth.sig.returnType = (some .int)) (h : Nat → Nat) {z : (Int32 × bb_O)} (R : bb_R X (some (.int z.1)) (wX5 X.cs h z.2)) {s0 : bb_O} {x3 : Int32} (hf : F_X5_walk_69 s0 x3 = some z) : bb_Z X 4 (wX5 X.cs h s0) 69 [(3, .int x3)] [] := by
  refine z_iload_n (pc := 69) (i := 3) C 0 dX5_walk_69 rfl rfl ?_
  obtain rfl := Option.some.inj hf
  exact z_iret (pc := 70) C hr R dX5_walk_70
noncomputable def F_X5_walk_55 (s0 : bb_O) (x1 : Int32) (x3 : Int32) : Option (Int32 × bb_O) := bb_g (vp_in ((((9 : Int32)) + (((5 : Int32)) * x1)) + ((1 : Int32))) 39) (F_X5_walk_69 (bb_sA s0 0 (upd (s0.2.1 0) ((((9 : Int32)) + (((5 : Int32)) * x1)) + ((1 : Int32))).toNatClampNeg x3)) x3)
set_option maxHeartbeats 4000000 in
set_option maxRecDepth 100000 in
theorem B_X5_walk_55 {X : bb_X} (C : bb_C X RX5 cX5_walk 4) (hR : bb_r X 3) (hr : X.meth.sig.returnType = (some .int)) (h : Nat → Nat) {z : (Int32 × bb_O)} (R : bb_R X (some (.int z.1)) (wX5 X.cs h z.2)) {s0 : bb_O} {x1 : Int32} {x3 : Int32} (hf : F_X5_walk_55 s0 x1 x3 = some z) : bb_Z X 4 (wX5 X.cs h s0) 55 [(0, .ref (h 0)), (1, .int x1), (3, .int x3)] [] := by
  refine z_aload_n (pc := 55) (i := 0) C 0 dX5_walk_55 rfl rfl ?_
  refine z_get (pc := 56) (ci := 5) C (.ref (h 1)) bi_X5 rfl 0 0 (by decide) rfl bf_X5_7 rfl rfl dX5_walk_56 ?_
  refine z_bipush (pc := 59) C (9 : Int32) dX5_walk_59 (by decide) ?_
  refine z_iconst (pc := 61) C (5 : Int32) dX5_walk_61 (by decide) ?_
  refine z_iload_n (pc := 62) (i := 1) C 1 dX5_walk_62 rfl rfl ?_
  refine z_imul (pc := 63) C dX5_walk_63 ?_
  refine z_iadd (pc := 64) C dX5_walk_64 ?_
  refine z_iconst (pc := 65) C (1 : Int32) dX5_walk_65 (by decide) ?_
  refine z_iadd (pc := 66) C dX5_walk_66 ?_
  refine z_iload_n (pc := 67) (i := 3) C 2 dX5_walk_67 rfl rfl ?_
  obtain ⟨hv1, hf⟩ := bb_g_some hf
  refine z_iast (pc := 68) (ws' := wX5 X.cs h (bb_sA s0 0 (upd (s0.2.1 0) ((((9 : Int32)) + (((5 : Int32)) * x1)) + ((1 : Int32))).toNatClampNeg x3))) C 1 0 (((((9 : Int32)) + (((5 : Int32)) * x1)) + ((1 : Int32))).toNatClampNeg) rfl rfl hv1 rfl rfl dX5_walk_68 ?_
  refine z_lv [2] rfl ?_
  exact B_X5_walk_69 C hR hr h R  hf
noncomputable def F_X5_walk_0 (s0 : bb_O) (x1 : Int32) (x2 : Int32) : Option (Int32 × bb_O) := (F_X5_isPerson_0 s0 x1).bind (fun q1 => if q1 = 0 then (F_X5_walk_20 s0) else ((F_X5_in_0 (x2.toInt64) ((0 : Int64)) ((3 : Int64))).bind (fun q3 => if q3 = 0 then (F_X5_walk_20 s0) else ((F_X5_told_0 s0 x1 ((1 : Int32))).bind (fun q5 => (F_X5_beside_0 s0 q5 x2).bind (fun q6 => (F_X5_isFree_0 s0 x1).bind (fun q7 => if q7 = 0 then (F_X5_walk_48 s0) else (if q6 = ((-4 : Int32)) then (F_X5_walk_48 s0) else ((F_X5_notes_0 s0).bind (fun q10 => F_X5_walk_55 q10 x1 q6))))))))))
set_option maxHeartbeats 4000000 in
set_option maxRecDepth 100000 in
theorem B_X5_walk_0 {X : bb_X} (C : bb_C X RX5 cX5_walk 4) (hR : bb_r X 3) (hr : X.meth.sig.returnType = (some .int)) (h : Nat → Nat) {z : (Int32 × bb_O)} (R : bb_R X (some (.int z.1)) (wX5 X.cs h z.2)) {s0 : bb_O} {x1 : Int32} {x2 : Int32} (hf : F_X5_walk_0 s0 x1 x2 = some z) : bb_Z X 4 (wX5 X.cs h s0) 0 [(0, .ref (h 0)), (1, .int x1), (2, .int x2)] [] := by
  refine z_aload_n (pc := 0) (i := 0) C 0 dX5_walk_0 rfl rfl ?_
  refine z_iload_n (pc := 1) (i := 1) C 1 dX5_walk_1 rfl rfl ?_
  obtain ⟨q1, hq1, hf⟩ := bb_b_some hf
  refine z_callVi (pc := 2) (ci := 5) (q0 := 0) (As := [.int x1]) (rest := []) C (hR.le (by decide)) (c_X5_isPerson h hq1) (bb_cut_self _ _) bv_X5_isPerson bm_X5_107 rfl rfl rfl rfl (Nat.le_of_ble_eq_true rfl) dX5_walk_2 ?_
  refine z_if_eq (pc := 5) C 20 dX5_walk_5 (by decide) (fun hc2 => ?_) (fun hc2 => ?_)
  · have hf := bb_t hf hc2
    refine z_lv [] rfl ?_
    exact B_X5_walk_20 C hR hr h R  hf
  · have hf := bb_e hf hc2
    refine z_iload_n (pc := 8) (i := 2) C 2 dX5_walk_8 rfl rfl ?_
    refine z_i2l (pc := 9) C dX5_walk_9 ?_
    refine z_lconst (pc := 10) C (0 : Int64) dX5_walk_10 (by decide) ?_
    refine z_ldc2_w (pc := 11) C bk_X5_159 dX5_walk_11 ?_
    obtain ⟨q3, hq3, hf⟩ := bb_b_some hf
    refine z_callSi (pc := 14) (As := [.long (x2.toInt64), .long ((0 : Int64)), .long ((3 : Int64))]) (rest := []) C (hR.le (by decide)) (c_X5_in hq3) (bb_cut_none _) bv_X5_in bm_X5_49 rfl rfl (Nat.le_of_ble_eq_true rfl) dX5_walk_14 ?_
    refine z_if_ne (pc := 17) C 22 dX5_walk_17 (by decide) (fun hc4 => ?_) (fun hc4 => ?_)
    · have hf := bb_e hf hc4
      refine z_aload_n (pc := 22) (i := 0) C 0 dX5_walk_22 rfl rfl ?_
      refine z_aload_n (pc := 23) (i := 0) C 0 dX5_walk_23 rfl rfl ?_
      refine z_iload_n (pc := 24) (i := 1) C 1 dX5_walk_24 rfl rfl ?_
      refine z_iconst (pc := 25) C (1 : Int32) dX5_walk_25 (by decide) ?_
      obtain ⟨q5, hq5, hf⟩ := bb_b_some hf
      refine z_callVi (pc := 26) (ci := 5) (q0 := 0) (As := [.int x1, .int ((1 : Int32))]) (rest := [.ref (h 0)]) C (hR.le (by decide)) (c_X5_told h hq5) (bb_cut_self _ _) bv_X5_told bm_X5_53 rfl rfl rfl rfl (Nat.le_of_ble_eq_true rfl) dX5_walk_26 ?_
      refine z_iload_n (pc := 29) (i := 2) C 2 dX5_walk_29 rfl rfl ?_
      obtain ⟨q6, hq6, hf⟩ := bb_b_some hf
      refine z_callVi (pc := 30) (ci := 5) (q0 := 0) (As := [.int q5, .int x2]) (rest := []) C (hR.le (by decide)) (c_X5_beside h hq6) (bb_cut_self _ _) bv_X5_beside bm_X5_161 rfl rfl rfl rfl (Nat.le_of_ble_eq_true rfl) dX5_walk_30 ?_
      refine z_istore_n (pc := 33) (i := 3) (lv' := [(3, .int q6), (0, .ref (h 0)), (1, .int x1), (2, .int x2)]) C dX5_walk_33 rfl (by decide) rfl ?_
      refine z_aload_n (pc := 34) (i := 0) C 1 dX5_walk_34 rfl rfl ?_
      refine z_iload_n (pc := 35) (i := 1) C 2 dX5_walk_35 rfl rfl ?_
      obtain ⟨q7, hq7, hf⟩ := bb_b_some hf
      refine z_callVi (pc := 36) (ci := 5) (q0 := 0) (As := [.int x1]) (rest := []) C (hR.le (by decide)) (c_X5_isFree h hq7) (bb_cut_self _ _) bv_X5_isFree bm_X5_67 rfl rfl rfl rfl (Nat.le_of_ble_eq_true rfl) dX5_walk_36 ?_
      refine z_if_eq (pc := 39) C 48 dX5_walk_39 (by decide) (fun hc8 => ?_) (fun hc8 => ?_)
      · have hf := bb_t hf hc8
        refine z_lv [] rfl ?_
        exact B_X5_walk_48 C hR hr h R  hf
      · have hf := bb_e hf hc8
        refine z_iload_n (pc := 42) (i := 3) C 0 dX5_walk_42 rfl rfl ?_
        refine z_bipush (pc := 43) C (-4 : Int32) dX5_walk_43 (by decide) ?_
        refine z_icmp_ne (pc := 45) C 51 dX5_walk_45 (by decide) (fun hc9 => ?_) (fun hc9 => ?_)
        · have hf := bb_e hf hc9
          refine z_aload_n (pc := 51) (i := 0) C 1 dX5_walk_51 rfl rfl ?_
          obtain ⟨q10, hq10, hf⟩ := bb_b_some hf
          refine z_callVv (pc := 52) (ci := 5) (q0 := 0) (As := []) (rest := []) (ws' := wX5 X.cs h q10) C (hR.le (by decide)) (c_X5_notes h hq10) (bb_cut_self _ _) bv_X5_notes bm_X5_152 rfl rfl rfl rfl (Nat.le_of_ble_eq_true rfl) dX5_walk_52 ?_
          refine z_lv [1, 2, 0] rfl ?_
          exact B_X5_walk_55 C hR hr h R  hf
        · have hf := bb_t hf hc9
          refine z_lv [] rfl ?_
          exact B_X5_walk_48 C hR hr h R  hf
    · have hf := bb_t hf hc4
      refine z_lv [] rfl ?_
      exact B_X5_walk_20 C hR hr h R  hf
theorem c_X5_walk {l : Launch} {D : va_G} {cs : Nat → ClassId} (h : Nat → Nat) {s0 : bb_O} {x1 : Int32} {x2 : Int32} {z : (Int32 × bb_O)} (hf : F_X5_walk_0 s0 x1 x2 = some z) : bb_M l yX5_walk cX5_walk 4 (some .int) 3 D cs [.ref (h 0), .int x1, .int x2] (some (.int z.1)) (wX5 cs h s0) (wX5 cs h z.2) := bb_mg (by decide) rfl (Nat.le_of_ble_eq_true rfl) rfl (fun X hl hD hcs C hR hr R => by
  subst hl
  subst hD
  subst hcs
  exact B_X5_walk_0 C hR hr h R hf)
/-! X5_free: writes, level 3 -/
noncomputable def F_X5_free_39 (s0 : bb_O) : Option (Int32 × bb_O) := some (s0.2.1 0 5, s0)
set_option maxHeartbeats 4000000 in
set_option maxRecDepth 100000 in
theorem B_X5_free_39 {X : bb_X} (C : bb_C X RX5 cX5_free 2) (hR : bb_r X 3) (hr : X.meth.sig.returnType = (some .int)) (h : Nat → Nat) {z : (Int32 × bb_O)} (R : bb_R X (some (.int z.1)) (wX5 X.cs h z.2)) {s0 : bb_O} (hf : F_X5_free_39 s0 = some z) : bb_Z X 2 (wX5 X.cs h s0) 39 [(0, .ref (h 0))] [] := by
  refine z_aload_n (pc := 39) (i := 0) C 0 dX5_free_39 rfl rfl ?_
  refine z_get (pc := 40) (ci := 5) C (.ref (h 1)) bi_X5 rfl 0 0 (by decide) rfl bf_X5_7 rfl rfl dX5_free_40 ?_
  refine z_iconst (pc := 43) C (5 : Int32) dX5_free_43 (by decide) ?_
  refine z_iald (pc := 44) C 1 0 (5) rfl rfl (show ¬ ((5 : Int32) < 0 ∨ 39 ≤ (5 : Int32).toNatClampNeg) by decide) (by decide) dX5_free_44 ?_
  obtain rfl := Option.some.inj hf
  exact z_iret (pc := 45) C hr R dX5_free_45
noncomputable def F_X5_free_0 (s0 : bb_O) (x1 : Int32) : Option (Int32 × bb_O) := (F_X5_isPerson_0 s0 x1).bind (fun q1 => if q1 = 0 then (some ((-1 : Int32), s0)) else ((F_X5_isFree_0 s0 x1).bind (fun q3 => if q3 = 0 then ((F_X5_notes_0 s0).bind (fun q5 => F_X5_free_39 (bb_sA q5 0 (upd (q5.2.1 0) 5 ((q5.2.1 0 5) &&& ((((1 : Int32)) <<< (x1 &&& 31)) ^^^ ((-1 : Int32)))))))) else (some ((-2 : Int32), s0)))))
set_option maxHeartbeats 4000000 in
set_option maxRecDepth 100000 in
theorem B_X5_free_0 {X : bb_X} (C : bb_C X RX5 cX5_free 2) (hR : bb_r X 3) (hr : X.meth.sig.returnType = (some .int)) (h : Nat → Nat) {z : (Int32 × bb_O)} (R : bb_R X (some (.int z.1)) (wX5 X.cs h z.2)) {s0 : bb_O} {x1 : Int32} (hf : F_X5_free_0 s0 x1 = some z) : bb_Z X 2 (wX5 X.cs h s0) 0 [(0, .ref (h 0)), (1, .int x1)] [] := by
  refine z_aload_n (pc := 0) (i := 0) C 0 dX5_free_0 rfl rfl ?_
  refine z_iload_n (pc := 1) (i := 1) C 1 dX5_free_1 rfl rfl ?_
  obtain ⟨q1, hq1, hf⟩ := bb_b_some hf
  refine z_callVi (pc := 2) (ci := 5) (q0 := 0) (As := [.int x1]) (rest := []) C (hR.le (by decide)) (c_X5_isPerson h hq1) (bb_cut_self _ _) bv_X5_isPerson bm_X5_107 rfl rfl rfl rfl (Nat.le_of_ble_eq_true rfl) dX5_free_2 ?_
  refine z_if_ne (pc := 5) C 10 dX5_free_5 (by decide) (fun hc2 => ?_) (fun hc2 => ?_)
  · have hf := bb_e hf hc2
    refine z_aload_n (pc := 10) (i := 0) C 0 dX5_free_10 rfl rfl ?_
    refine z_iload_n (pc := 11) (i := 1) C 1 dX5_free_11 rfl rfl ?_
    obtain ⟨q3, hq3, hf⟩ := bb_b_some hf
    refine z_callVi (pc := 12) (ci := 5) (q0 := 0) (As := [.int x1]) (rest := []) C (hR.le (by decide)) (c_X5_isFree h hq3) (bb_cut_self _ _) bv_X5_isFree bm_X5_67 rfl rfl rfl rfl (Nat.le_of_ble_eq_true rfl) dX5_free_12 ?_
    refine z_if_eq (pc := 15) C 21 dX5_free_15 (by decide) (fun hc4 => ?_) (fun hc4 => ?_)
    · have hf := bb_t hf hc4
      refine z_aload_n (pc := 21) (i := 0) C 0 dX5_free_21 rfl rfl ?_
      obtain ⟨q5, hq5, hf⟩ := bb_b_some hf
      refine z_callVv (pc := 22) (ci := 5) (q0 := 0) (As := []) (rest := []) (ws' := wX5 X.cs h q5) C (hR.le (by decide)) (c_X5_notes h hq5) (bb_cut_self _ _) bv_X5_notes bm_X5_152 rfl rfl rfl rfl (Nat.le_of_ble_eq_true rfl) dX5_free_22 ?_
      refine z_aload_n (pc := 25) (i := 0) C 0 dX5_free_25 rfl rfl ?_
      refine z_get (pc := 26) (ci := 5) C (.ref (h 1)) bi_X5 rfl 0 0 (by decide) rfl bf_X5_7 rfl rfl dX5_free_26 ?_
      refine z_iconst (pc := 29) C (5 : Int32) dX5_free_29 (by decide) ?_
      refine z_dup2 (pc := 30) C dX5_free_30 rfl rfl ?_
      refine z_iald (pc := 31) C 1 0 (5) rfl rfl (show ¬ ((5 : Int32) < 0 ∨ 39 ≤ (5 : Int32).toNatClampNeg) by decide) (by decide) dX5_free_31 ?_
      refine z_iconst (pc := 32) C (1 : Int32) dX5_free_32 (by decide) ?_
      refine z_iload_n (pc := 33) (i := 1) C 1 dX5_free_33 rfl rfl ?_
      refine z_ishl (pc := 34) C dX5_free_34 ?_
      refine z_iconst (pc := 35) C (-1 : Int32) dX5_free_35 (by decide) ?_
      refine z_ixor (pc := 36) C dX5_free_36 ?_
      refine z_iand (pc := 37) C dX5_free_37 ?_
      refine z_iast (pc := 38) (ws' := wX5 X.cs h (bb_sA q5 0 (upd (q5.2.1 0) 5 ((q5.2.1 0 5) &&& ((((1 : Int32)) <<< (x1 &&& 31)) ^^^ ((-1 : Int32))))))) C 1 0 (5) rfl rfl (show ¬ ((5 : Int32) < 0 ∨ 39 ≤ (5 : Int32).toNatClampNeg) by decide) (by decide) rfl dX5_free_38 ?_
      refine z_lv [0] rfl ?_
      exact B_X5_free_39 C hR hr h R  hf
    · have hf := bb_e hf hc4
      refine z_bipush (pc := 18) C (-2 : Int32) dX5_free_18 (by decide) ?_
      obtain rfl := Option.some.inj hf
      exact z_iret (pc := 20) C hr R dX5_free_20
  · have hf := bb_t hf hc2
    refine z_iconst (pc := 8) C (-1 : Int32) dX5_free_8 (by decide) ?_
    obtain rfl := Option.some.inj hf
    exact z_iret (pc := 9) C hr R dX5_free_9
theorem c_X5_free {l : Launch} {D : va_G} {cs : Nat → ClassId} (h : Nat → Nat) {s0 : bb_O} {x1 : Int32} {z : (Int32 × bb_O)} (hf : F_X5_free_0 s0 x1 = some z) : bb_M l yX5_free cX5_free 2 (some .int) 3 D cs [.ref (h 0), .int x1] (some (.int z.1)) (wX5 cs h s0) (wX5 cs h z.2) := bb_mg (by decide) rfl (Nat.le_of_ble_eq_true rfl) rfl (fun X hl hD hcs C hR hr R => by
  subst hl
  subst hD
  subst hcs
  exact B_X5_free_0 C hR hr h R hf)
/-! X5_drift: writes, level 6 -/
noncomputable def F_X5_drift_169 (k45 : bb_O → Int32 → Int32 → Option (Int32 × bb_O)) (s0 : bb_O) (x1 : Int32) (x2 : Int32) : Option (Int32 × bb_O) := k45 s0 x1 (x2 + 1)
set_option maxHeartbeats 4000000 in
set_option maxRecDepth 100000 in
theorem B_X5_drift_169 {X : bb_X} (C : bb_C X RX5 cX5_drift 5) (hR : bb_r X 6) (hr : X.meth.sig.returnType = (some .int)) (h : Nat → Nat) {z : (Int32 × bb_O)} (R : bb_R X (some (.int z.1)) (wX5 X.cs h z.2)) {k45 : bb_O → Int32 → Int32 → Option (Int32 × bb_O)} (hk45 : ∀ (s0 : bb_O) (x1 : Int32) (x2 : Int32), k45 s0 x1 x2 = some z → bb_Z X 5 (wX5 X.cs h s0) 45 [(0, .ref (h 0)), (1, .int x1), (2, .int x2)] []) {s0 : bb_O} {x1 : Int32} {x2 : Int32} (hf : F_X5_drift_169 k45 s0 x1 x2 = some z) : bb_Z X 5 (wX5 X.cs h s0) 169 [(0, .ref (h 0)), (1, .int x1), (2, .int x2)] [] := by
  refine z_iinc (pc := 169) (lv' := [(2, .int (x2 + 1)), (0, .ref (h 0)), (1, .int x1)]) C (x2 + 1) 2 dX5_drift_169 rfl rfl (by decide) rfl ?_
  refine z_goto (pc := 172) C 45 dX5_drift_172 (by decide) ?_
  refine z_lv [1, 2, 0] rfl ?_
  exact hk45 _ _ _ hf
noncomputable def F_X5_drift_164 (k45 : bb_O → Int32 → Int32 → Option (Int32 × bb_O)) (s0 : bb_O) (x1 : Int32) (x2 : Int32) : Option (Int32 × bb_O) := (F_X5_goesBy_0 s0).bind (fun q1 => F_X5_drift_169 k45 q1.2 x1 x2)
set_option maxHeartbeats 4000000 in
set_option maxRecDepth 100000 in
theorem B_X5_drift_164 {X : bb_X} (C : bb_C X RX5 cX5_drift 5) (hR : bb_r X 6) (hr : X.meth.sig.returnType = (some .int)) (h : Nat → Nat) {z : (Int32 × bb_O)} (R : bb_R X (some (.int z.1)) (wX5 X.cs h z.2)) {k45 : bb_O → Int32 → Int32 → Option (Int32 × bb_O)} (hk45 : ∀ (s0 : bb_O) (x1 : Int32) (x2 : Int32), k45 s0 x1 x2 = some z → bb_Z X 5 (wX5 X.cs h s0) 45 [(0, .ref (h 0)), (1, .int x1), (2, .int x2)] []) {s0 : bb_O} {x1 : Int32} {x2 : Int32} (hf : F_X5_drift_164 k45 s0 x1 x2 = some z) : bb_Z X 5 (wX5 X.cs h s0) 164 [(0, .ref (h 0)), (1, .int x1), (2, .int x2)] [] := by
  refine z_aload_n (pc := 164) (i := 0) C 0 dX5_drift_164 rfl rfl ?_
  obtain ⟨q1, hq1, hf⟩ := bb_b_some hf
  refine z_callVi (pc := 165) (ci := 5) (q0 := 0) (As := []) (rest := []) (ws' := wX5 X.cs h q1.2) C (hR.le (by decide)) (c_X5_goesBy h hq1) (bb_cut_self _ _) bv_X5_goesBy bm_X5_155 rfl rfl rfl rfl (Nat.le_of_ble_eq_true rfl) dX5_drift_165 ?_
  refine z_pop (pc := 168) C dX5_drift_168 rfl ?_
  exact B_X5_drift_169 C hR hr h R hk45 hf
noncomputable def F_X5_drift_163 (k45 : bb_O → Int32 → Int32 → Option (Int32 × bb_O)) (s0 : bb_O) (x1 : Int32) (x2 : Int32) (y0 : Int32) (y1 : Int32) : Option (Int32 × bb_O) := bb_g (vp_in y1 39) (F_X5_drift_164 k45 (bb_sA s0 0 (upd (s0.2.1 0) y1.toNatClampNeg y0)) x1 x2)
set_option maxHeartbeats 4000000 in
set_option maxRecDepth 100000 in
theorem B_X5_drift_163 {X : bb_X} (C : bb_C X RX5 cX5_drift 5) (hR : bb_r X 6) (hr : X.meth.sig.returnType = (some .int)) (h : Nat → Nat) {z : (Int32 × bb_O)} (R : bb_R X (some (.int z.1)) (wX5 X.cs h z.2)) {k45 : bb_O → Int32 → Int32 → Option (Int32 × bb_O)} (hk45 : ∀ (s0 : bb_O) (x1 : Int32) (x2 : Int32), k45 s0 x1 x2 = some z → bb_Z X 5 (wX5 X.cs h s0) 45 [(0, .ref (h 0)), (1, .int x1), (2, .int x2)] []) {s0 : bb_O} {x1 : Int32} {x2 : Int32} {y0 : Int32} {y1 : Int32} (hf : F_X5_drift_163 k45 s0 x1 x2 y0 y1 = some z) : bb_Z X 5 (wX5 X.cs h s0) 163 [(0, .ref (h 0)), (1, .int x1), (2, .int x2)] [.int y0, .int y1, .ref (h 1)] := by
  obtain ⟨hv1, hf⟩ := bb_g_some hf
  refine z_iast (pc := 163) (ws' := wX5 X.cs h (bb_sA s0 0 (upd (s0.2.1 0) y1.toNatClampNeg y0))) C 1 0 (y1.toNatClampNeg) rfl rfl hv1 rfl rfl dX5_drift_163 ?_
  exact B_X5_drift_164 C hR hr h R hk45 hf
noncomputable def F_X5_drift_157 (k45 : bb_O → Int32 → Int32 → Option (Int32 × bb_O)) (s0 : bb_O) (x1 : Int32) (x2 : Int32) (x3 : Int32) (y0 : Int32) : Option (Int32 × bb_O) := (F_X5_told_0 s0 x3 ((1 : Int32))).bind (fun q1 => F_X5_drift_163 k45 s0 x1 x2 q1 y0)
set_option maxHeartbeats 4000000 in
set_option maxRecDepth 100000 in
theorem B_X5_drift_157 {X : bb_X} (C : bb_C X RX5 cX5_drift 5) (hR : bb_r X 6) (hr : X.meth.sig.returnType = (some .int)) (h : Nat → Nat) {z : (Int32 × bb_O)} (R : bb_R X (some (.int z.1)) (wX5 X.cs h z.2)) {k45 : bb_O → Int32 → Int32 → Option (Int32 × bb_O)} (hk45 : ∀ (s0 : bb_O) (x1 : Int32) (x2 : Int32), k45 s0 x1 x2 = some z → bb_Z X 5 (wX5 X.cs h s0) 45 [(0, .ref (h 0)), (1, .int x1), (2, .int x2)] []) {s0 : bb_O} {x1 : Int32} {x2 : Int32} {x3 : Int32} {y0 : Int32} (hf : F_X5_drift_157 k45 s0 x1 x2 x3 y0 = some z) : bb_Z X 5 (wX5 X.cs h s0) 157 [(0, .ref (h 0)), (1, .int x1), (2, .int x2), (3, .int x3)] [.int y0, .ref (h 1)] := by
  refine z_aload_n (pc := 157) (i := 0) C 0 dX5_drift_157 rfl rfl ?_
  refine z_iload_n (pc := 158) (i := 3) C 3 dX5_drift_158 rfl rfl ?_
  refine z_iconst (pc := 159) C (1 : Int32) dX5_drift_159 (by decide) ?_
  obtain ⟨q1, hq1, hf⟩ := bb_b_some hf
  refine z_callVi (pc := 160) (ci := 5) (q0 := 0) (As := [.int x3, .int ((1 : Int32))]) (rest := [.int y0, .ref (h 1)]) C (hR.le (by decide)) (c_X5_told h hq1) (bb_cut_self _ _) bv_X5_told bm_X5_53 rfl rfl rfl rfl (Nat.le_of_ble_eq_true rfl) dX5_drift_160 ?_
  refine z_lv [0, 1, 2] rfl ?_
  exact B_X5_drift_163 C hR hr h R hk45 hf
noncomputable def F_X5_drift_82 (k45 : bb_O → Int32 → Int32 → Option (Int32 × bb_O)) (s0 : bb_O) (x1 : Int32) (x2 : Int32) : Option (Int32 × bb_O) := bb_g (¬ (s0.2.1 0 2) = 0) ((F_X5_told_0 s0 (((s0.2.1 0 8) / ((65536 : Int32))) % (s0.2.1 0 2)) ((1 : Int32))).bind (fun q2 => (F_X5_beside_0 s0 q2 (((s0.2.1 0 8) / ((128 : Int32))) % ((4 : Int32)))).bind (fun q3 => (F_X5_isFree_0 s0 (((s0.2.1 0 8) / ((65536 : Int32))) % (s0.2.1 0 2))).bind (fun q4 => if q4 = 0 then (F_X5_drift_157 k45 s0 x1 x2 (((s0.2.1 0 8) / ((65536 : Int32))) % (s0.2.1 0 2)) ((((9 : Int32)) + (((5 : Int32)) * (((s0.2.1 0 8) / ((65536 : Int32))) % (s0.2.1 0 2)))) + ((1 : Int32)))) else (if q3 = ((-4 : Int32)) then (F_X5_drift_157 k45 s0 x1 x2 (((s0.2.1 0 8) / ((65536 : Int32))) % (s0.2.1 0 2)) ((((9 : Int32)) + (((5 : Int32)) * (((s0.2.1 0 8) / ((65536 : Int32))) % (s0.2.1 0 2)))) + ((1 : Int32)))) else (F_X5_drift_163 k45 s0 x1 x2 q3 ((((9 : Int32)) + (((5 : Int32)) * (((s0.2.1 0 8) / ((65536 : Int32))) % (s0.2.1 0 2)))) + ((1 : Int32)))))))))
set_option maxHeartbeats 4000000 in
set_option maxRecDepth 100000 in
theorem B_X5_drift_82 {X : bb_X} (C : bb_C X RX5 cX5_drift 5) (hR : bb_r X 6) (hr : X.meth.sig.returnType = (some .int)) (h : Nat → Nat) {z : (Int32 × bb_O)} (R : bb_R X (some (.int z.1)) (wX5 X.cs h z.2)) {k45 : bb_O → Int32 → Int32 → Option (Int32 × bb_O)} (hk45 : ∀ (s0 : bb_O) (x1 : Int32) (x2 : Int32), k45 s0 x1 x2 = some z → bb_Z X 5 (wX5 X.cs h s0) 45 [(0, .ref (h 0)), (1, .int x1), (2, .int x2)] []) {s0 : bb_O} {x1 : Int32} {x2 : Int32} (hf : F_X5_drift_82 k45 s0 x1 x2 = some z) : bb_Z X 5 (wX5 X.cs h s0) 82 [(0, .ref (h 0)), (1, .int x1), (2, .int x2)] [] := by
  refine z_aload_n (pc := 82) (i := 0) C 0 dX5_drift_82 rfl rfl ?_
  refine z_get (pc := 83) (ci := 5) C (.ref (h 1)) bi_X5 rfl 0 0 (by decide) rfl bf_X5_7 rfl rfl dX5_drift_83 ?_
  refine z_bipush (pc := 86) C (8 : Int32) dX5_drift_86 (by decide) ?_
  refine z_iald (pc := 88) C 1 0 (8) rfl rfl (show ¬ ((8 : Int32) < 0 ∨ 39 ≤ (8 : Int32).toNatClampNeg) by decide) (by decide) dX5_drift_88 ?_
  refine z_ldc (pc := 89) C bk_X5_170 dX5_drift_89 ?_
  refine z_idiv (pc := 91) C dX5_drift_91 (by decide) ?_
  refine z_aload_n (pc := 92) (i := 0) C 0 dX5_drift_92 rfl rfl ?_
  refine z_get (pc := 93) (ci := 5) C (.ref (h 1)) bi_X5 rfl 0 0 (by decide) rfl bf_X5_7 rfl rfl dX5_drift_93 ?_
  refine z_iconst (pc := 96) C (2 : Int32) dX5_drift_96 (by decide) ?_
  refine z_iald (pc := 97) C 1 0 (2) rfl rfl (show ¬ ((2 : Int32) < 0 ∨ 39 ≤ (2 : Int32).toNatClampNeg) by decide) (by decide) dX5_drift_97 ?_
  obtain ⟨hn1, hf⟩ := bb_g_some hf
  refine z_irem (pc := 98) C dX5_drift_98 hn1 ?_
  refine z_istore_n (pc := 99) (i := 3) (lv' := [(3, .int (((s0.2.1 0 8) / ((65536 : Int32))) % (s0.2.1 0 2))), (0, .ref (h 0)), (1, .int x1), (2, .int x2)]) C dX5_drift_99 rfl (by decide) rfl ?_
  refine z_aload_n (pc := 100) (i := 0) C 1 dX5_drift_100 rfl rfl ?_
  refine z_aload_n (pc := 101) (i := 0) C 1 dX5_drift_101 rfl rfl ?_
  refine z_iload_n (pc := 102) (i := 3) C 0 dX5_drift_102 rfl rfl ?_
  refine z_iconst (pc := 103) C (1 : Int32) dX5_drift_103 (by decide) ?_
  obtain ⟨q2, hq2, hf⟩ := bb_b_some hf
  refine z_callVi (pc := 104) (ci := 5) (q0 := 0) (As := [.int (((s0.2.1 0 8) / ((65536 : Int32))) % (s0.2.1 0 2)), .int ((1 : Int32))]) (rest := [.ref (h 0)]) C (hR.le (by decide)) (c_X5_told h hq2) (bb_cut_self _ _) bv_X5_told bm_X5_53 rfl rfl rfl rfl (Nat.le_of_ble_eq_true rfl) dX5_drift_104 ?_
  refine z_aload_n (pc := 107) (i := 0) C 1 dX5_drift_107 rfl rfl ?_
  refine z_get (pc := 108) (ci := 5) C (.ref (h 1)) bi_X5 rfl 0 0 (by decide) rfl bf_X5_7 rfl rfl dX5_drift_108 ?_
  refine z_bipush (pc := 111) C (8 : Int32) dX5_drift_111 (by decide) ?_
  refine z_iald (pc := 113) C 1 0 (8) rfl rfl (show ¬ ((8 : Int32) < 0 ∨ 39 ≤ (8 : Int32).toNatClampNeg) by decide) (by decide) dX5_drift_113 ?_
  refine z_sipush (pc := 114) C (128 : Int32) dX5_drift_114 (by decide) ?_
  refine z_idiv (pc := 117) C dX5_drift_117 (by decide) ?_
  refine z_iconst (pc := 118) C (4 : Int32) dX5_drift_118 (by decide) ?_
  refine z_irem (pc := 119) C dX5_drift_119 (by decide) ?_
  obtain ⟨q3, hq3, hf⟩ := bb_b_some hf
  refine z_callVi (pc := 120) (ci := 5) (q0 := 0) (As := [.int q2, .int (((s0.2.1 0 8) / ((128 : Int32))) % ((4 : Int32)))]) (rest := []) C (hR.le (by decide)) (c_X5_beside h hq3) (bb_cut_self _ _) bv_X5_beside bm_X5_161 rfl rfl rfl rfl (Nat.le_of_ble_eq_true rfl) dX5_drift_120 ?_
  refine z_istore (pc := 123) (lv' := [(4, .int q3), (3, .int (((s0.2.1 0 8) / ((65536 : Int32))) % (s0.2.1 0 2))), (0, .ref (h 0)), (1, .int x1), (2, .int x2)]) C dX5_drift_123 (by decide) rfl ?_
  refine z_aload_n (pc := 125) (i := 0) C 2 dX5_drift_125 rfl rfl ?_
  refine z_get (pc := 126) (ci := 5) C (.ref (h 1)) bi_X5 rfl 0 0 (by decide) rfl bf_X5_7 rfl rfl dX5_drift_126 ?_
  refine z_bipush (pc := 129) C (9 : Int32) dX5_drift_129 (by decide) ?_
  refine z_iconst (pc := 131) C (5 : Int32) dX5_drift_131 (by decide) ?_
  refine z_iload_n (pc := 132) (i := 3) C 1 dX5_drift_132 rfl rfl ?_
  refine z_imul (pc := 133) C dX5_drift_133 ?_
  refine z_iadd (pc := 134) C dX5_drift_134 ?_
  refine z_iconst (pc := 135) C (1 : Int32) dX5_drift_135 (by decide) ?_
  refine z_iadd (pc := 136) C dX5_drift_136 ?_
  refine z_aload_n (pc := 137) (i := 0) C 2 dX5_drift_137 rfl rfl ?_
  refine z_iload_n (pc := 138) (i := 3) C 1 dX5_drift_138 rfl rfl ?_
  obtain ⟨q4, hq4, hf⟩ := bb_b_some hf
  refine z_callVi (pc := 139) (ci := 5) (q0 := 0) (As := [.int (((s0.2.1 0 8) / ((65536 : Int32))) % (s0.2.1 0 2))]) (rest := [.int ((((9 : Int32)) + (((5 : Int32)) * (((s0.2.1 0 8) / ((65536 : Int32))) % (s0.2.1 0 2)))) + ((1 : Int32))), .ref (h 1)]) C (hR.le (by decide)) (c_X5_isFree h hq4) (bb_cut_self _ _) bv_X5_isFree bm_X5_67 rfl rfl rfl rfl (Nat.le_of_ble_eq_true rfl) dX5_drift_139 ?_
  refine z_if_eq (pc := 142) C 157 dX5_drift_142 (by decide) (fun hc5 => ?_) (fun hc5 => ?_)
  · have hf := bb_t hf hc5
    refine z_lv [2, 3, 4, 1] rfl ?_
    exact B_X5_drift_157 C hR hr h R hk45 hf
  · have hf := bb_e hf hc5
    refine z_iload (pc := 145) C 0 dX5_drift_145 rfl ?_
    refine z_bipush (pc := 147) C (-4 : Int32) dX5_drift_147 (by decide) ?_
    refine z_icmp_eq (pc := 149) C 157 dX5_drift_149 (by decide) (fun hc6 => ?_) (fun hc6 => ?_)
    · have hf := bb_t hf hc6
      refine z_lv [2, 3, 4, 1] rfl ?_
      exact B_X5_drift_157 C hR hr h R hk45 hf
    · have hf := bb_e hf hc6
      refine z_iload (pc := 152) C 0 dX5_drift_152 rfl ?_
      refine z_goto (pc := 154) C 163 dX5_drift_154 (by decide) ?_
      refine z_lv [2, 3, 4] rfl ?_
      exact B_X5_drift_163 C hR hr h R hk45 hf
noncomputable def G_X5_drift_45 (k45 : bb_O → Int32 → Int32 → Option (Int32 × bb_O)) (s0 : bb_O) (x1 : Int32) (x2 : Int32) : Option (Int32 × bb_O) := if x1 ≤ x2 then (some (s0.2.1 0 5, s0)) else ((F_X5_notes_0 s0).bind (fun q2 => F_X5_drift_82 k45 (bb_sA q2 0 (upd (q2.2.1 0) 8 ((((((q2.2.1 0 8).toInt64) * ((1103515245 : Int64))) + ((12345 : Int64))) &&& ((2147483647 : Int64))).toInt32))) x1 x2))
noncomputable def F_X5_drift_45  : Nat → bb_O → Int32 → Int32 → Option (Int32 × bb_O)
  | 0, _, _, _ => none
  | n + 1, s0, x1, x2 => G_X5_drift_45  (F_X5_drift_45  n) s0 x1 x2
set_option maxHeartbeats 4000000 in
set_option maxRecDepth 100000 in
theorem A_X5_drift_45 {X : bb_X} (C : bb_C X RX5 cX5_drift 5) (hR : bb_r X 6) (hr : X.meth.sig.returnType = (some .int)) (h : Nat → Nat) {z : (Int32 × bb_O)} (R : bb_R X (some (.int z.1)) (wX5 X.cs h z.2)) {k45 : bb_O → Int32 → Int32 → Option (Int32 × bb_O)} (hk45 : ∀ (s0 : bb_O) (x1 : Int32) (x2 : Int32), k45 s0 x1 x2 = some z → bb_Z X 5 (wX5 X.cs h s0) 45 [(0, .ref (h 0)), (1, .int x1), (2, .int x2)] []) {s0 : bb_O} {x1 : Int32} {x2 : Int32} (hf : G_X5_drift_45 k45 s0 x1 x2 = some z) : bb_Z X 5 (wX5 X.cs h s0) 45 [(0, .ref (h 0)), (1, .int x1), (2, .int x2)] [] := by
  refine z_iload_n (pc := 45) (i := 2) C 2 dX5_drift_45 rfl rfl ?_
  refine z_iload_n (pc := 46) (i := 1) C 1 dX5_drift_46 rfl rfl ?_
  refine z_icmp_ge (pc := 47) C 175 dX5_drift_47 (by decide) (fun hc1 => ?_) (fun hc1 => ?_)
  · have hf := bb_t hf hc1
    refine z_aload_n (pc := 175) (i := 0) C 0 dX5_drift_175 rfl rfl ?_
    refine z_get (pc := 176) (ci := 5) C (.ref (h 1)) bi_X5 rfl 0 0 (by decide) rfl bf_X5_7 rfl rfl dX5_drift_176 ?_
    refine z_iconst (pc := 179) C (5 : Int32) dX5_drift_179 (by decide) ?_
    refine z_iald (pc := 180) C 1 0 (5) rfl rfl (show ¬ ((5 : Int32) < 0 ∨ 39 ≤ (5 : Int32).toNatClampNeg) by decide) (by decide) dX5_drift_180 ?_
    obtain rfl := Option.some.inj hf
    exact z_iret (pc := 181) C hr R dX5_drift_181
  · have hf := bb_e hf hc1
    refine z_aload_n (pc := 50) (i := 0) C 0 dX5_drift_50 rfl rfl ?_
    obtain ⟨q2, hq2, hf⟩ := bb_b_some hf
    refine z_callVv (pc := 51) (ci := 5) (q0 := 0) (As := []) (rest := []) (ws' := wX5 X.cs h q2) C (hR.le (by decide)) (c_X5_notes h hq2) (bb_cut_self _ _) bv_X5_notes bm_X5_152 rfl rfl rfl rfl (Nat.le_of_ble_eq_true rfl) dX5_drift_51 ?_
    refine z_aload_n (pc := 54) (i := 0) C 0 dX5_drift_54 rfl rfl ?_
    refine z_get (pc := 55) (ci := 5) C (.ref (h 1)) bi_X5 rfl 0 0 (by decide) rfl bf_X5_7 rfl rfl dX5_drift_55 ?_
    refine z_bipush (pc := 58) C (8 : Int32) dX5_drift_58 (by decide) ?_
    refine z_aload_n (pc := 60) (i := 0) C 0 dX5_drift_60 rfl rfl ?_
    refine z_get (pc := 61) (ci := 5) C (.ref (h 1)) bi_X5 rfl 0 0 (by decide) rfl bf_X5_7 rfl rfl dX5_drift_61 ?_
    refine z_bipush (pc := 64) C (8 : Int32) dX5_drift_64 (by decide) ?_
    refine z_iald (pc := 66) C 1 0 (8) rfl rfl (show ¬ ((8 : Int32) < 0 ∨ 39 ≤ (8 : Int32).toNatClampNeg) by decide) (by decide) dX5_drift_66 ?_
    refine z_i2l (pc := 67) C dX5_drift_67 ?_
    refine z_ldc2_w (pc := 68) C bk_X5_164 dX5_drift_68 ?_
    refine z_lmul (pc := 71) C dX5_drift_71 ?_
    refine z_ldc2_w (pc := 72) C bk_X5_166 dX5_drift_72 ?_
    refine z_ladd (pc := 75) C dX5_drift_75 ?_
    refine z_ldc2_w (pc := 76) C bk_X5_168 dX5_drift_76 ?_
    refine z_land (pc := 79) C dX5_drift_79 ?_
    refine z_l2i (pc := 80) C dX5_drift_80 ?_
    refine z_iast (pc := 81) (ws' := wX5 X.cs h (bb_sA q2 0 (upd (q2.2.1 0) 8 ((((((q2.2.1 0 8).toInt64) * ((1103515245 : Int64))) + ((12345 : Int64))) &&& ((2147483647 : Int64))).toInt32)))) C 1 0 (8) rfl rfl (show ¬ ((8 : Int32) < 0 ∨ 39 ≤ (8 : Int32).toNatClampNeg) by decide) (by decide) rfl dX5_drift_81 ?_
    exact B_X5_drift_82 C hR hr h R hk45 hf
theorem B_X5_drift_45 {X : bb_X} (C : bb_C X RX5 cX5_drift 5) (hR : bb_r X 6) (hr : X.meth.sig.returnType = (some .int)) (h : Nat → Nat) {z : (Int32 × bb_O)} (R : bb_R X (some (.int z.1)) (wX5 X.cs h z.2)) : ∀ (n : Nat) (s0 : bb_O) (x1 : Int32) (x2 : Int32), F_X5_drift_45  n s0 x1 x2 = some z → bb_Z X 5 (wX5 X.cs h s0) 45 [(0, .ref (h 0)), (1, .int x1), (2, .int x2)] [] := by
  intro n
  induction n with
  | zero =>
    intro s0 x1 x2 hf
    cases hf
  | succ n ih =>
    intro s0 x1 x2 hf
    exact A_X5_drift_45 C hR hr h R  ih hf
noncomputable def F_X5_drift_0 (s0 : bb_O) (x1 : Int32) : Option (Int32 × bb_O) := (F_X5_in_0 (x1.toInt64) ((1 : Int64)) ((40 : Int64))).bind (fun q1 => if q1 = 0 then (some ((-1 : Int32), s0)) else (if (s0.2.1 0 2) = 0 then (some ((-2 : Int32), s0)) else (if ((s0.2.1 0 4) + x1) ≤ ((9999 : Int32)) then (F_X5_drift_45 bb_N s0 x1 ((0 : Int32))) else (some ((-3 : Int32), s0)))))
set_option maxHeartbeats 4000000 in
set_option maxRecDepth 100000 in
theorem B_X5_drift_0 {X : bb_X} (C : bb_C X RX5 cX5_drift 5) (hR : bb_r X 6) (hr : X.meth.sig.returnType = (some .int)) (h : Nat → Nat) {z : (Int32 × bb_O)} (R : bb_R X (some (.int z.1)) (wX5 X.cs h z.2)) {s0 : bb_O} {x1 : Int32} (hf : F_X5_drift_0 s0 x1 = some z) : bb_Z X 5 (wX5 X.cs h s0) 0 [(0, .ref (h 0)), (1, .int x1)] [] := by
  refine z_iload_n (pc := 0) (i := 1) C 1 dX5_drift_0 rfl rfl ?_
  refine z_i2l (pc := 1) C dX5_drift_1 ?_
  refine z_lconst (pc := 2) C (1 : Int64) dX5_drift_2 (by decide) ?_
  refine z_ldc2_w (pc := 3) C bk_X5_150 dX5_drift_3 ?_
  obtain ⟨q1, hq1, hf⟩ := bb_b_some hf
  refine z_callSi (pc := 6) (As := [.long (x1.toInt64), .long ((1 : Int64)), .long ((40 : Int64))]) (rest := []) C (hR.le (by decide)) (c_X5_in hq1) (bb_cut_none _) bv_X5_in bm_X5_49 rfl rfl (Nat.le_of_ble_eq_true rfl) dX5_drift_6 ?_
  refine z_if_ne (pc := 9) C 14 dX5_drift_9 (by decide) (fun hc2 => ?_) (fun hc2 => ?_)
  · have hf := bb_e hf hc2
    refine z_aload_n (pc := 14) (i := 0) C 0 dX5_drift_14 rfl rfl ?_
    refine z_get (pc := 15) (ci := 5) C (.ref (h 1)) bi_X5 rfl 0 0 (by decide) rfl bf_X5_7 rfl rfl dX5_drift_15 ?_
    refine z_iconst (pc := 18) C (2 : Int32) dX5_drift_18 (by decide) ?_
    refine z_iald (pc := 19) C 1 0 (2) rfl rfl (show ¬ ((2 : Int32) < 0 ∨ 39 ≤ (2 : Int32).toNatClampNeg) by decide) (by decide) dX5_drift_19 ?_
    refine z_if_ne (pc := 20) C 26 dX5_drift_20 (by decide) (fun hc3 => ?_) (fun hc3 => ?_)
    · have hf := bb_e hf hc3
      refine z_aload_n (pc := 26) (i := 0) C 0 dX5_drift_26 rfl rfl ?_
      refine z_get (pc := 27) (ci := 5) C (.ref (h 1)) bi_X5 rfl 0 0 (by decide) rfl bf_X5_7 rfl rfl dX5_drift_27 ?_
      refine z_iconst (pc := 30) C (4 : Int32) dX5_drift_30 (by decide) ?_
      refine z_iald (pc := 31) C 1 0 (4) rfl rfl (show ¬ ((4 : Int32) < 0 ∨ 39 ≤ (4 : Int32).toNatClampNeg) by decide) (by decide) dX5_drift_31 ?_
      refine z_iload_n (pc := 32) (i := 1) C 1 dX5_drift_32 rfl rfl ?_
      refine z_iadd (pc := 33) C dX5_drift_33 ?_
      refine z_sipush (pc := 34) C (9999 : Int32) dX5_drift_34 (by decide) ?_
      refine z_icmp_le (pc := 37) C 43 dX5_drift_37 (by decide) (fun hc4 => ?_) (fun hc4 => ?_)
      · have hf := bb_t hf hc4
        refine z_iconst (pc := 43) C (0 : Int32) dX5_drift_43 (by decide) ?_
        refine z_istore_n (pc := 44) (i := 2) (lv' := [(2, .int ((0 : Int32))), (0, .ref (h 0)), (1, .int x1)]) C dX5_drift_44 rfl (by decide) rfl ?_
        refine z_lv [1, 2, 0] rfl ?_
        exact B_X5_drift_45 C hR hr h R  bb_N _ _ _ hf
      · have hf := bb_e hf hc4
        refine z_bipush (pc := 40) C (-3 : Int32) dX5_drift_40 (by decide) ?_
        obtain rfl := Option.some.inj hf
        exact z_iret (pc := 42) C hr R dX5_drift_42
    · have hf := bb_t hf hc3
      refine z_bipush (pc := 23) C (-2 : Int32) dX5_drift_23 (by decide) ?_
      obtain rfl := Option.some.inj hf
      exact z_iret (pc := 25) C hr R dX5_drift_25
  · have hf := bb_t hf hc2
    refine z_iconst (pc := 12) C (-1 : Int32) dX5_drift_12 (by decide) ?_
    obtain rfl := Option.some.inj hf
    exact z_iret (pc := 13) C hr R dX5_drift_13
theorem c_X5_drift {l : Launch} {D : va_G} {cs : Nat → ClassId} (h : Nat → Nat) {s0 : bb_O} {x1 : Int32} {z : (Int32 × bb_O)} (hf : F_X5_drift_0 s0 x1 = some z) : bb_M l yX5_drift cX5_drift 5 (some .int) 6 D cs [.ref (h 0), .int x1] (some (.int z.1)) (wX5 cs h s0) (wX5 cs h z.2) := bb_mg (by decide) rfl (Nat.le_of_ble_eq_true rfl) rfl (fun X hl hD hcs C hR hr R => by
  subst hl
  subst hD
  subst hcs
  exact B_X5_drift_0 C hR hr h R hf)
/-! X5_undo: writes, level 1 -/
noncomputable def F_X5_undo_76 (k30 : bb_O → Int32 → Int32 → Option (Int32 × bb_O)) (s0 : bb_O) (x1 : Int32) (x2 : Int32) : Option (Int32 × bb_O) := k30 s0 x1 (x2 + 1)
set_option maxHeartbeats 4000000 in
set_option maxRecDepth 100000 in
theorem B_X5_undo_76 {X : bb_X} (C : bb_C X RX5 cX5_undo 3) (hR : bb_r X 1) (hr : X.meth.sig.returnType = (some .int)) (h : Nat → Nat) {z : (Int32 × bb_O)} (R : bb_R X (some (.int z.1)) (wX5 X.cs h z.2)) {k30 : bb_O → Int32 → Int32 → Option (Int32 × bb_O)} (hk30 : ∀ (s0 : bb_O) (x1 : Int32) (x2 : Int32), k30 s0 x1 x2 = some z → bb_Z X 3 (wX5 X.cs h s0) 30 [(0, .ref (h 0)), (1, .int x1), (2, .int x2)] []) {s0 : bb_O} {x1 : Int32} {x2 : Int32} (hf : F_X5_undo_76 k30 s0 x1 x2 = some z) : bb_Z X 3 (wX5 X.cs h s0) 76 [(0, .ref (h 0)), (1, .int x1), (2, .int x2)] [] := by
  refine z_iinc (pc := 76) (lv' := [(2, .int (x2 + 1)), (0, .ref (h 0)), (1, .int x1)]) C (x2 + 1) 2 dX5_undo_76 rfl rfl (by decide) rfl ?_
  refine z_goto (pc := 79) C 30 dX5_undo_79 (by decide) ?_
  refine z_lv [1, 2, 0] rfl ?_
  exact hk30 _ _ _ hf
noncomputable def F_X5_undo_52 (k30 : bb_O → Int32 → Int32 → Option (Int32 × bb_O)) (s0 : bb_O) (x1 : Int32) (x2 : Int32) : Option (Int32 × bb_O) := bb_g (vp_in ((x1 + ((6 : Int32))) + x2) 96) (bb_g (vp_in ((((9 : Int32)) + (((5 : Int32)) * x2)) + ((1 : Int32))) 39) (F_X5_undo_76 k30 (bb_sA s0 0 (upd (s0.2.1 0) ((((9 : Int32)) + (((5 : Int32)) * x2)) + ((1 : Int32))).toNatClampNeg (s0.2.1 8 ((x1 + ((6 : Int32))) + x2).toNatClampNeg))) x1 x2))
set_option maxHeartbeats 4000000 in
set_option maxRecDepth 100000 in
theorem B_X5_undo_52 {X : bb_X} (C : bb_C X RX5 cX5_undo 3) (hR : bb_r X 1) (hr : X.meth.sig.returnType = (some .int)) (h : Nat → Nat) {z : (Int32 × bb_O)} (R : bb_R X (some (.int z.1)) (wX5 X.cs h z.2)) {k30 : bb_O → Int32 → Int32 → Option (Int32 × bb_O)} (hk30 : ∀ (s0 : bb_O) (x1 : Int32) (x2 : Int32), k30 s0 x1 x2 = some z → bb_Z X 3 (wX5 X.cs h s0) 30 [(0, .ref (h 0)), (1, .int x1), (2, .int x2)] []) {s0 : bb_O} {x1 : Int32} {x2 : Int32} (hf : F_X5_undo_52 k30 s0 x1 x2 = some z) : bb_Z X 3 (wX5 X.cs h s0) 52 [(0, .ref (h 0)), (1, .int x1), (2, .int x2)] [] := by
  refine z_aload_n (pc := 52) (i := 0) C 0 dX5_undo_52 rfl rfl ?_
  refine z_get (pc := 53) (ci := 5) C (.ref (h 1)) bi_X5 rfl 0 0 (by decide) rfl bf_X5_7 rfl rfl dX5_undo_53 ?_
  refine z_bipush (pc := 56) C (9 : Int32) dX5_undo_56 (by decide) ?_
  refine z_iconst (pc := 58) C (5 : Int32) dX5_undo_58 (by decide) ?_
  refine z_iload_n (pc := 59) (i := 2) C 2 dX5_undo_59 rfl rfl ?_
  refine z_imul (pc := 60) C dX5_undo_60 ?_
  refine z_iadd (pc := 61) C dX5_undo_61 ?_
  refine z_iconst (pc := 62) C (1 : Int32) dX5_undo_62 (by decide) ?_
  refine z_iadd (pc := 63) C dX5_undo_63 ?_
  refine z_aload_n (pc := 64) (i := 0) C 0 dX5_undo_64 rfl rfl ?_
  refine z_get (pc := 65) (ci := 5) C (.ref (h 9)) bi_X5 rfl 0 8 (by decide) rfl bf_X5_19 rfl rfl dX5_undo_65 ?_
  refine z_iload_n (pc := 68) (i := 1) C 1 dX5_undo_68 rfl rfl ?_
  refine z_bipush (pc := 69) C (6 : Int32) dX5_undo_69 (by decide) ?_
  refine z_iadd (pc := 71) C dX5_undo_71 ?_
  refine z_iload_n (pc := 72) (i := 2) C 2 dX5_undo_72 rfl rfl ?_
  refine z_iadd (pc := 73) C dX5_undo_73 ?_
  obtain ⟨hv1, hf⟩ := bb_g_some hf
  refine z_iald (pc := 74) C 4 0 (((x1 + ((6 : Int32))) + x2).toNatClampNeg) rfl rfl hv1 rfl dX5_undo_74 ?_
  obtain ⟨hv2, hf⟩ := bb_g_some hf
  refine z_iast (pc := 75) (ws' := wX5 X.cs h (bb_sA s0 0 (upd (s0.2.1 0) ((((9 : Int32)) + (((5 : Int32)) * x2)) + ((1 : Int32))).toNatClampNeg (s0.2.1 8 ((x1 + ((6 : Int32))) + x2).toNatClampNeg)))) C 1 0 (((((9 : Int32)) + (((5 : Int32)) * x2)) + ((1 : Int32))).toNatClampNeg) rfl rfl hv2 rfl rfl dX5_undo_75 ?_
  exact B_X5_undo_76 C hR hr h R hk30 hf
noncomputable def G_X5_undo_30 (k30 : bb_O → Int32 → Int32 → Option (Int32 × bb_O)) (s0 : bb_O) (x1 : Int32) (x2 : Int32) : Option (Int32 × bb_O) := if ((6 : Int32)) ≤ x2 then (some (s0.1 9, s0)) else (bb_g (vp_in (x1 + x2) 96) (bb_g (vp_in (((3 : Int32)) + x2) 39) (F_X5_undo_52 k30 (bb_sA s0 0 (upd (s0.2.1 0) (((3 : Int32)) + x2).toNatClampNeg (s0.2.1 8 (x1 + x2).toNatClampNeg))) x1 x2)))
noncomputable def F_X5_undo_30  : Nat → bb_O → Int32 → Int32 → Option (Int32 × bb_O)
  | 0, _, _, _ => none
  | n + 1, s0, x1, x2 => G_X5_undo_30  (F_X5_undo_30  n) s0 x1 x2
set_option maxHeartbeats 4000000 in
set_option maxRecDepth 100000 in
theorem A_X5_undo_30 {X : bb_X} (C : bb_C X RX5 cX5_undo 3) (hR : bb_r X 1) (hr : X.meth.sig.returnType = (some .int)) (h : Nat → Nat) {z : (Int32 × bb_O)} (R : bb_R X (some (.int z.1)) (wX5 X.cs h z.2)) {k30 : bb_O → Int32 → Int32 → Option (Int32 × bb_O)} (hk30 : ∀ (s0 : bb_O) (x1 : Int32) (x2 : Int32), k30 s0 x1 x2 = some z → bb_Z X 3 (wX5 X.cs h s0) 30 [(0, .ref (h 0)), (1, .int x1), (2, .int x2)] []) {s0 : bb_O} {x1 : Int32} {x2 : Int32} (hf : G_X5_undo_30 k30 s0 x1 x2 = some z) : bb_Z X 3 (wX5 X.cs h s0) 30 [(0, .ref (h 0)), (1, .int x1), (2, .int x2)] [] := by
  refine z_iload_n (pc := 30) (i := 2) C 2 dX5_undo_30 rfl rfl ?_
  refine z_bipush (pc := 31) C (6 : Int32) dX5_undo_31 (by decide) ?_
  refine z_icmp_ge (pc := 33) C 82 dX5_undo_33 (by decide) (fun hc1 => ?_) (fun hc1 => ?_)
  · have hf := bb_t hf hc1
    refine z_aload_n (pc := 82) (i := 0) C 0 dX5_undo_82 rfl rfl ?_
    refine z_get (pc := 83) (ci := 5) C (.int (s0.1 9)) bi_X5 rfl 0 9 (by decide) rfl bf_X5_45 rfl rfl dX5_undo_83 ?_
    obtain rfl := Option.some.inj hf
    exact z_iret (pc := 86) C hr R dX5_undo_86
  · have hf := bb_e hf hc1
    refine z_aload_n (pc := 36) (i := 0) C 0 dX5_undo_36 rfl rfl ?_
    refine z_get (pc := 37) (ci := 5) C (.ref (h 1)) bi_X5 rfl 0 0 (by decide) rfl bf_X5_7 rfl rfl dX5_undo_37 ?_
    refine z_iconst (pc := 40) C (3 : Int32) dX5_undo_40 (by decide) ?_
    refine z_iload_n (pc := 41) (i := 2) C 2 dX5_undo_41 rfl rfl ?_
    refine z_iadd (pc := 42) C dX5_undo_42 ?_
    refine z_aload_n (pc := 43) (i := 0) C 0 dX5_undo_43 rfl rfl ?_
    refine z_get (pc := 44) (ci := 5) C (.ref (h 9)) bi_X5 rfl 0 8 (by decide) rfl bf_X5_19 rfl rfl dX5_undo_44 ?_
    refine z_iload_n (pc := 47) (i := 1) C 1 dX5_undo_47 rfl rfl ?_
    refine z_iload_n (pc := 48) (i := 2) C 2 dX5_undo_48 rfl rfl ?_
    refine z_iadd (pc := 49) C dX5_undo_49 ?_
    obtain ⟨hv2, hf⟩ := bb_g_some hf
    refine z_iald (pc := 50) C 4 0 ((x1 + x2).toNatClampNeg) rfl rfl hv2 rfl dX5_undo_50 ?_
    obtain ⟨hv3, hf⟩ := bb_g_some hf
    refine z_iast (pc := 51) (ws' := wX5 X.cs h (bb_sA s0 0 (upd (s0.2.1 0) (((3 : Int32)) + x2).toNatClampNeg (s0.2.1 8 (x1 + x2).toNatClampNeg)))) C 1 0 ((((3 : Int32)) + x2).toNatClampNeg) rfl rfl hv3 rfl rfl dX5_undo_51 ?_
    exact B_X5_undo_52 C hR hr h R hk30 hf
theorem B_X5_undo_30 {X : bb_X} (C : bb_C X RX5 cX5_undo 3) (hR : bb_r X 1) (hr : X.meth.sig.returnType = (some .int)) (h : Nat → Nat) {z : (Int32 × bb_O)} (R : bb_R X (some (.int z.1)) (wX5 X.cs h z.2)) : ∀ (n : Nat) (s0 : bb_O) (x1 : Int32) (x2 : Int32), F_X5_undo_30  n s0 x1 x2 = some z → bb_Z X 3 (wX5 X.cs h s0) 30 [(0, .ref (h 0)), (1, .int x1), (2, .int x2)] [] := by
  intro n
  induction n with
  | zero =>
    intro s0 x1 x2 hf
    cases hf
  | succ n ih =>
    intro s0 x1 x2 hf
    exact A_X5_undo_30 C hR hr h R  ih hf
noncomputable def F_X5_undo_20 (s0 : bb_O) : Option (Int32 × bb_O) := F_X5_undo_30 bb_N s0 (((12 : Int32)) * (s0.1 9)) ((0 : Int32))
set_option maxHeartbeats 4000000 in
set_option maxRecDepth 100000 in
theorem B_X5_undo_20 {X : bb_X} (C : bb_C X RX5 cX5_undo 3) (hR : bb_r X 1) (hr : X.meth.sig.returnType = (some .int)) (h : Nat → Nat) {z : (Int32 × bb_O)} (R : bb_R X (some (.int z.1)) (wX5 X.cs h z.2)) {s0 : bb_O} (hf : F_X5_undo_20 s0 = some z) : bb_Z X 3 (wX5 X.cs h s0) 20 [(0, .ref (h 0))] [] := by
  refine z_bipush (pc := 20) C (12 : Int32) dX5_undo_20 (by decide) ?_
  refine z_aload_n (pc := 22) (i := 0) C 0 dX5_undo_22 rfl rfl ?_
  refine z_get (pc := 23) (ci := 5) C (.int (s0.1 9)) bi_X5 rfl 0 9 (by decide) rfl bf_X5_45 rfl rfl dX5_undo_23 ?_
  refine z_imul (pc := 26) C dX5_undo_26 ?_
  refine z_istore_n (pc := 27) (i := 1) (lv' := [(1, .int (((12 : Int32)) * (s0.1 9))), (0, .ref (h 0))]) C dX5_undo_27 rfl (by decide) rfl ?_
  refine z_iconst (pc := 28) C (0 : Int32) dX5_undo_28 (by decide) ?_
  refine z_istore_n (pc := 29) (i := 2) (lv' := [(2, .int ((0 : Int32))), (1, .int (((12 : Int32)) * (s0.1 9))), (0, .ref (h 0))]) C dX5_undo_29 rfl (by decide) rfl ?_
  refine z_lv [2, 1, 0] rfl ?_
  exact B_X5_undo_30 C hR hr h R  bb_N _ _ _ hf
noncomputable def F_X5_undo_0 (s0 : bb_O) : Option (Int32 × bb_O) := if (s0.1 9) = 0 then (some ((-4 : Int32), s0)) else (F_X5_undo_20 (bb_sf s0 9 ((s0.1 9) - ((1 : Int32)))))
set_option maxHeartbeats 4000000 in
set_option maxRecDepth 100000 in
theorem B_X5_undo_0 {X : bb_X} (C : bb_C X RX5 cX5_undo 3) (hR : bb_r X 1) (hr : X.meth.sig.returnType = (some .int)) (h : Nat → Nat) {z : (Int32 × bb_O)} (R : bb_R X (some (.int z.1)) (wX5 X.cs h z.2)) {s0 : bb_O} (hf : F_X5_undo_0 s0 = some z) : bb_Z X 3 (wX5 X.cs h s0) 0 [(0, .ref (h 0))] [] := by
  refine z_aload_n (pc := 0) (i := 0) C 0 dX5_undo_0 rfl rfl ?_
  refine z_get (pc := 1) (ci := 5) C (.int (s0.1 9)) bi_X5 rfl 0 9 (by decide) rfl bf_X5_45 rfl rfl dX5_undo_1 ?_
  refine z_if_ne (pc := 4) C 10 dX5_undo_4 (by decide) (fun hc1 => ?_) (fun hc1 => ?_)
  · have hf := bb_e hf hc1
    refine z_aload_n (pc := 10) (i := 0) C 0 dX5_undo_10 rfl rfl ?_
    refine z_dup (pc := 11) C dX5_undo_11 rfl ?_
    refine z_get (pc := 12) (ci := 5) C (.int (s0.1 9)) bi_X5 rfl 0 9 (by decide) rfl bf_X5_45 rfl rfl dX5_undo_12 ?_
    refine z_iconst (pc := 15) C (1 : Int32) dX5_undo_15 (by decide) ?_
    refine z_isub (pc := 16) C dX5_undo_16 ?_
    refine z_put (pc := 17) (ci := 5) (ty := .int) (ws' := wX5 X.cs h (bb_sf s0 9 ((s0.1 9) - ((1 : Int32))))) C bi_X5 tyX5_ok nmX5 rfl 0 9 (by decide) rfl bf_X5_45 rfl rfl rfl rfl rfl (Nat.le_of_ble_eq_true rfl) rfl dX5_undo_17 ?_
    exact B_X5_undo_20 C hR hr h R  hf
  · have hf := bb_t hf hc1
    refine z_bipush (pc := 7) C (-4 : Int32) dX5_undo_7 (by decide) ?_
    obtain rfl := Option.some.inj hf
    exact z_iret (pc := 9) C hr R dX5_undo_9
theorem c_X5_undo {l : Launch} {D : va_G} {cs : Nat → ClassId} (h : Nat → Nat) {s0 : bb_O} {z : (Int32 × bb_O)} (hf : F_X5_undo_0 s0 = some z) : bb_M l yX5_undo cX5_undo 3 (some .int) 1 D cs [.ref (h 0)] (some (.int z.1)) (wX5 cs h s0) (wX5 cs h z.2) := bb_mg (by decide) rfl (Nat.le_of_ble_eq_true rfl) rfl (fun X hl hD hcs C hR hr R => by
  subst hl
  subst hD
  subst hcs
  exact B_X5_undo_0 C hR hr h R hf)
/-! X5_seed: writes, level 1 -/
noncomputable def F_X5_seed_22 (s0 : bb_O) (x2 : Int32) : Option (Int32 × bb_O) := some (x2, s0)
set_option maxHeartbeats 4000000 in
set_option maxRecDepth 100000 in
theorem B_X5_seed_22 {X : bb_X} (C : bb_C X RX5 cX5_seed 3) (hR : bb_r X 1) (hr : X.meth.sig.returnType = (some .int)) (h : Nat → Nat) {z : (Int32 × bb_O)} (R : bb_R X (some (.int z.1)) (wX5 X.cs h z.2)) {s0 : bb_O} {x2 : Int32} (hf : F_X5_seed_22 s0 x2 = some z) : bb_Z X 3 (wX5 X.cs h s0) 22 [(2, .int x2)] [] := by
  refine z_iload_n (pc := 22) (i := 2) C 0 dX5_seed_22 rfl rfl ?_
  obtain rfl := Option.some.inj hf
  exact z_iret (pc := 23) C hr R dX5_seed_23
noncomputable def F_X5_seed_0 (s0 : bb_O) (x1 : Int32) : Option (Int32 × bb_O) := if 0 ≤ x1 then (F_X5_seed_22 (bb_sA s0 0 (upd (s0.2.1 0) 8 x1)) (s0.2.1 0 8)) else (some ((-1 : Int32), s0))
set_option maxHeartbeats 4000000 in
set_option maxRecDepth 100000 in
theorem B_X5_seed_0 {X : bb_X} (C : bb_C X RX5 cX5_seed 3) (hR : bb_r X 1) (hr : X.meth.sig.returnType = (some .int)) (h : Nat → Nat) {z : (Int32 × bb_O)} (R : bb_R X (some (.int z.1)) (wX5 X.cs h z.2)) {s0 : bb_O} {x1 : Int32} (hf : F_X5_seed_0 s0 x1 = some z) : bb_Z X 3 (wX5 X.cs h s0) 0 [(0, .ref (h 0)), (1, .int x1)] [] := by
  refine z_iload_n (pc := 0) (i := 1) C 1 dX5_seed_0 rfl rfl ?_
  refine z_if_ge (pc := 1) C 6 dX5_seed_1 (by decide) (fun hc1 => ?_) (fun hc1 => ?_)
  · have hf := bb_t hf hc1
    refine z_aload_n (pc := 6) (i := 0) C 0 dX5_seed_6 rfl rfl ?_
    refine z_get (pc := 7) (ci := 5) C (.ref (h 1)) bi_X5 rfl 0 0 (by decide) rfl bf_X5_7 rfl rfl dX5_seed_7 ?_
    refine z_bipush (pc := 10) C (8 : Int32) dX5_seed_10 (by decide) ?_
    refine z_iald (pc := 12) C 1 0 (8) rfl rfl (show ¬ ((8 : Int32) < 0 ∨ 39 ≤ (8 : Int32).toNatClampNeg) by decide) (by decide) dX5_seed_12 ?_
    refine z_istore_n (pc := 13) (i := 2) (lv' := [(2, .int (s0.2.1 0 8)), (0, .ref (h 0)), (1, .int x1)]) C dX5_seed_13 rfl (by decide) rfl ?_
    refine z_aload_n (pc := 14) (i := 0) C 1 dX5_seed_14 rfl rfl ?_
    refine z_get (pc := 15) (ci := 5) C (.ref (h 1)) bi_X5 rfl 0 0 (by decide) rfl bf_X5_7 rfl rfl dX5_seed_15 ?_
    refine z_bipush (pc := 18) C (8 : Int32) dX5_seed_18 (by decide) ?_
    refine z_iload_n (pc := 20) (i := 1) C 2 dX5_seed_20 rfl rfl ?_
    refine z_iast (pc := 21) (ws' := wX5 X.cs h (bb_sA s0 0 (upd (s0.2.1 0) 8 x1))) C 1 0 (8) rfl rfl (show ¬ ((8 : Int32) < 0 ∨ 39 ≤ (8 : Int32).toNatClampNeg) by decide) (by decide) rfl dX5_seed_21 ?_
    refine z_lv [0] rfl ?_
    exact B_X5_seed_22 C hR hr h R  hf
  · have hf := bb_e hf hc1
    refine z_iconst (pc := 4) C (-1 : Int32) dX5_seed_4 (by decide) ?_
    obtain rfl := Option.some.inj hf
    exact z_iret (pc := 5) C hr R dX5_seed_5
theorem c_X5_seed {l : Launch} {D : va_G} {cs : Nat → ClassId} (h : Nat → Nat) {s0 : bb_O} {x1 : Int32} {z : (Int32 × bb_O)} (hf : F_X5_seed_0 s0 x1 = some z) : bb_M l yX5_seed cX5_seed 3 (some .int) 1 D cs [.ref (h 0), .int x1] (some (.int z.1)) (wX5 cs h s0) (wX5 cs h z.2) := bb_mg (by decide) rfl (Nat.le_of_ble_eq_true rfl) rfl (fun X hl hD hcs C hR hr R => by
  subst hl
  subst hD
  subst hcs
  exact B_X5_seed_0 C hR hr h R hf)
/-! X5_asides: writes, level 1 -/
noncomputable def F_X5_asides_20 (k2 : bb_O → Int32 → Option (bb_O)) (s0 : bb_O) (x1 : Int32) : Option (bb_O) := k2 s0 (x1 + 1)
set_option maxHeartbeats 4000000 in
set_option maxRecDepth 100000 in
theorem B_X5_asides_20 {X : bb_X} (C : bb_C X RX5 cX5_asides 2) (hR : bb_r X 1) (hr : X.meth.sig.returnType = none) (h : Nat → Nat) {z : (bb_O)} (R : bb_R X none (wX5 X.cs h z)) {k2 : bb_O → Int32 → Option (bb_O)} (hk2 : ∀ (s0 : bb_O) (x1 : Int32), k2 s0 x1 = some z → bb_Z X 2 (wX5 X.cs h s0) 2 [(0, .ref (h 0)), (1, .int x1)] []) {s0 : bb_O} {x1 : Int32} (hf : F_X5_asides_20 k2 s0 x1 = some z) : bb_Z X 2 (wX5 X.cs h s0) 20 [(0, .ref (h 0)), (1, .int x1)] [] := by
  refine z_iinc (pc := 20) (lv' := [(1, .int (x1 + 1)), (0, .ref (h 0))]) C (x1 + 1) 1 dX5_asides_20 rfl rfl (by decide) rfl ?_
  refine z_goto (pc := 23) C 2 dX5_asides_23 (by decide) ?_
  refine z_lv [1, 0] rfl ?_
  exact hk2 _ _ hf
noncomputable def G_X5_asides_2 (k2 : bb_O → Int32 → Option (bb_O)) (s0 : bb_O) (x1 : Int32) : Option (bb_O) := if ((39 : Int32)) ≤ x1 then (some s0) else (bb_g (vp_in x1 39) (bb_g (vp_in x1 39) (F_X5_asides_20 k2 (bb_sA s0 10 (upd (s0.2.1 10) x1.toNatClampNeg (s0.2.1 0 x1.toNatClampNeg))) x1)))
noncomputable def F_X5_asides_2  : Nat → bb_O → Int32 → Option (bb_O)
  | 0, _, _ => none
  | n + 1, s0, x1 => G_X5_asides_2  (F_X5_asides_2  n) s0 x1
set_option maxHeartbeats 4000000 in
set_option maxRecDepth 100000 in
theorem A_X5_asides_2 {X : bb_X} (C : bb_C X RX5 cX5_asides 2) (hR : bb_r X 1) (hr : X.meth.sig.returnType = none) (h : Nat → Nat) {z : (bb_O)} (R : bb_R X none (wX5 X.cs h z)) {k2 : bb_O → Int32 → Option (bb_O)} (hk2 : ∀ (s0 : bb_O) (x1 : Int32), k2 s0 x1 = some z → bb_Z X 2 (wX5 X.cs h s0) 2 [(0, .ref (h 0)), (1, .int x1)] []) {s0 : bb_O} {x1 : Int32} (hf : G_X5_asides_2 k2 s0 x1 = some z) : bb_Z X 2 (wX5 X.cs h s0) 2 [(0, .ref (h 0)), (1, .int x1)] [] := by
  refine z_iload_n (pc := 2) (i := 1) C 1 dX5_asides_2 rfl rfl ?_
  refine z_bipush (pc := 3) C (39 : Int32) dX5_asides_3 (by decide) ?_
  refine z_icmp_ge (pc := 5) C 26 dX5_asides_5 (by decide) (fun hc1 => ?_) (fun hc1 => ?_)
  · have hf := bb_t hf hc1
    obtain rfl := Option.some.inj hf
    exact z_vret (pc := 26) C hr R dX5_asides_26
  · have hf := bb_e hf hc1
    refine z_aload_n (pc := 8) (i := 0) C 0 dX5_asides_8 rfl rfl ?_
    refine z_get (pc := 9) (ci := 5) C (.ref (h 11)) bi_X5 rfl 0 10 (by decide) rfl bf_X5_22 rfl rfl dX5_asides_9 ?_
    refine z_iload_n (pc := 12) (i := 1) C 1 dX5_asides_12 rfl rfl ?_
    refine z_aload_n (pc := 13) (i := 0) C 0 dX5_asides_13 rfl rfl ?_
    refine z_get (pc := 14) (ci := 5) C (.ref (h 1)) bi_X5 rfl 0 0 (by decide) rfl bf_X5_7 rfl rfl dX5_asides_14 ?_
    refine z_iload_n (pc := 17) (i := 1) C 1 dX5_asides_17 rfl rfl ?_
    obtain ⟨hv2, hf⟩ := bb_g_some hf
    refine z_iald (pc := 18) C 1 0 (x1.toNatClampNeg) rfl rfl hv2 rfl dX5_asides_18 ?_
    obtain ⟨hv3, hf⟩ := bb_g_some hf
    refine z_iast (pc := 19) (ws' := wX5 X.cs h (bb_sA s0 10 (upd (s0.2.1 10) x1.toNatClampNeg (s0.2.1 0 x1.toNatClampNeg)))) C 5 0 (x1.toNatClampNeg) rfl rfl hv3 rfl rfl dX5_asides_19 ?_
    exact B_X5_asides_20 C hR hr h R hk2 hf
theorem B_X5_asides_2 {X : bb_X} (C : bb_C X RX5 cX5_asides 2) (hR : bb_r X 1) (hr : X.meth.sig.returnType = none) (h : Nat → Nat) {z : (bb_O)} (R : bb_R X none (wX5 X.cs h z)) : ∀ (n : Nat) (s0 : bb_O) (x1 : Int32), F_X5_asides_2  n s0 x1 = some z → bb_Z X 2 (wX5 X.cs h s0) 2 [(0, .ref (h 0)), (1, .int x1)] [] := by
  intro n
  induction n with
  | zero =>
    intro s0 x1 hf
    cases hf
  | succ n ih =>
    intro s0 x1 hf
    exact A_X5_asides_2 C hR hr h R  ih hf
noncomputable def F_X5_asides_0 (s0 : bb_O) : Option (bb_O) := F_X5_asides_2 bb_N s0 ((0 : Int32))
set_option maxHeartbeats 4000000 in
set_option maxRecDepth 100000 in
theorem B_X5_asides_0 {X : bb_X} (C : bb_C X RX5 cX5_asides 2) (hR : bb_r X 1) (hr : X.meth.sig.returnType = none) (h : Nat → Nat) {z : (bb_O)} (R : bb_R X none (wX5 X.cs h z)) {s0 : bb_O} (hf : F_X5_asides_0 s0 = some z) : bb_Z X 2 (wX5 X.cs h s0) 0 [(0, .ref (h 0))] [] := by
  refine z_iconst (pc := 0) C (0 : Int32) dX5_asides_0 (by decide) ?_
  refine z_istore_n (pc := 1) (i := 1) (lv' := [(1, .int ((0 : Int32))), (0, .ref (h 0))]) C dX5_asides_1 rfl (by decide) rfl ?_
  refine z_lv [1, 0] rfl ?_
  exact B_X5_asides_2 C hR hr h R  bb_N _ _ hf
theorem c_X5_asides {l : Launch} {D : va_G} {cs : Nat → ClassId} (h : Nat → Nat) {s0 : bb_O} {z : (bb_O)} (hf : F_X5_asides_0 s0 = some z) : bb_M l yX5_asides cX5_asides 2 none 1 D cs [.ref (h 0)] none (wX5 cs h s0) (wX5 cs h z) := bb_mg (by decide) rfl (Nat.le_of_ble_eq_true rfl) rfl (fun X hl hD hcs C hR hr R => by
  subst hl
  subst hD
  subst hcs
  exact B_X5_asides_0 C hR hr h R hf)
/-! X5_backs: writes, level 1 -/
noncomputable def F_X5_backs_20 (k2 : bb_O → Int32 → Option (bb_O)) (s0 : bb_O) (x1 : Int32) : Option (bb_O) := k2 s0 (x1 + 1)
set_option maxHeartbeats 4000000 in
set_option maxRecDepth 100000 in
theorem B_X5_backs_20 {X : bb_X} (C : bb_C X RX5 cX5_backs 2) (hR : bb_r X 1) (hr : X.meth.sig.returnType = none) (h : Nat → Nat) {z : (bb_O)} (R : bb_R X none (wX5 X.cs h z)) {k2 : bb_O → Int32 → Option (bb_O)} (hk2 : ∀ (s0 : bb_O) (x1 : Int32), k2 s0 x1 = some z → bb_Z X 2 (wX5 X.cs h s0) 2 [(0, .ref (h 0)), (1, .int x1)] []) {s0 : bb_O} {x1 : Int32} (hf : F_X5_backs_20 k2 s0 x1 = some z) : bb_Z X 2 (wX5 X.cs h s0) 20 [(0, .ref (h 0)), (1, .int x1)] [] := by
  refine z_iinc (pc := 20) (lv' := [(1, .int (x1 + 1)), (0, .ref (h 0))]) C (x1 + 1) 1 dX5_backs_20 rfl rfl (by decide) rfl ?_
  refine z_goto (pc := 23) C 2 dX5_backs_23 (by decide) ?_
  refine z_lv [1, 0] rfl ?_
  exact hk2 _ _ hf
noncomputable def G_X5_backs_2 (k2 : bb_O → Int32 → Option (bb_O)) (s0 : bb_O) (x1 : Int32) : Option (bb_O) := if ((39 : Int32)) ≤ x1 then (some s0) else (bb_g (vp_in x1 39) (bb_g (vp_in x1 39) (F_X5_backs_20 k2 (bb_sA s0 0 (upd (s0.2.1 0) x1.toNatClampNeg (s0.2.1 10 x1.toNatClampNeg))) x1)))
noncomputable def F_X5_backs_2  : Nat → bb_O → Int32 → Option (bb_O)
  | 0, _, _ => none
  | n + 1, s0, x1 => G_X5_backs_2  (F_X5_backs_2  n) s0 x1
set_option maxHeartbeats 4000000 in
set_option maxRecDepth 100000 in
theorem A_X5_backs_2 {X : bb_X} (C : bb_C X RX5 cX5_backs 2) (hR : bb_r X 1) (hr : X.meth.sig.returnType = none) (h : Nat → Nat) {z : (bb_O)} (R : bb_R X none (wX5 X.cs h z)) {k2 : bb_O → Int32 → Option (bb_O)} (hk2 : ∀ (s0 : bb_O) (x1 : Int32), k2 s0 x1 = some z → bb_Z X 2 (wX5 X.cs h s0) 2 [(0, .ref (h 0)), (1, .int x1)] []) {s0 : bb_O} {x1 : Int32} (hf : G_X5_backs_2 k2 s0 x1 = some z) : bb_Z X 2 (wX5 X.cs h s0) 2 [(0, .ref (h 0)), (1, .int x1)] [] := by
  refine z_iload_n (pc := 2) (i := 1) C 1 dX5_backs_2 rfl rfl ?_
  refine z_bipush (pc := 3) C (39 : Int32) dX5_backs_3 (by decide) ?_
  refine z_icmp_ge (pc := 5) C 26 dX5_backs_5 (by decide) (fun hc1 => ?_) (fun hc1 => ?_)
  · have hf := bb_t hf hc1
    obtain rfl := Option.some.inj hf
    exact z_vret (pc := 26) C hr R dX5_backs_26
  · have hf := bb_e hf hc1
    refine z_aload_n (pc := 8) (i := 0) C 0 dX5_backs_8 rfl rfl ?_
    refine z_get (pc := 9) (ci := 5) C (.ref (h 1)) bi_X5 rfl 0 0 (by decide) rfl bf_X5_7 rfl rfl dX5_backs_9 ?_
    refine z_iload_n (pc := 12) (i := 1) C 1 dX5_backs_12 rfl rfl ?_
    refine z_aload_n (pc := 13) (i := 0) C 0 dX5_backs_13 rfl rfl ?_
    refine z_get (pc := 14) (ci := 5) C (.ref (h 11)) bi_X5 rfl 0 10 (by decide) rfl bf_X5_22 rfl rfl dX5_backs_14 ?_
    refine z_iload_n (pc := 17) (i := 1) C 1 dX5_backs_17 rfl rfl ?_
    obtain ⟨hv2, hf⟩ := bb_g_some hf
    refine z_iald (pc := 18) C 5 0 (x1.toNatClampNeg) rfl rfl hv2 rfl dX5_backs_18 ?_
    obtain ⟨hv3, hf⟩ := bb_g_some hf
    refine z_iast (pc := 19) (ws' := wX5 X.cs h (bb_sA s0 0 (upd (s0.2.1 0) x1.toNatClampNeg (s0.2.1 10 x1.toNatClampNeg)))) C 1 0 (x1.toNatClampNeg) rfl rfl hv3 rfl rfl dX5_backs_19 ?_
    exact B_X5_backs_20 C hR hr h R hk2 hf
theorem B_X5_backs_2 {X : bb_X} (C : bb_C X RX5 cX5_backs 2) (hR : bb_r X 1) (hr : X.meth.sig.returnType = none) (h : Nat → Nat) {z : (bb_O)} (R : bb_R X none (wX5 X.cs h z)) : ∀ (n : Nat) (s0 : bb_O) (x1 : Int32), F_X5_backs_2  n s0 x1 = some z → bb_Z X 2 (wX5 X.cs h s0) 2 [(0, .ref (h 0)), (1, .int x1)] [] := by
  intro n
  induction n with
  | zero =>
    intro s0 x1 hf
    cases hf
  | succ n ih =>
    intro s0 x1 hf
    exact A_X5_backs_2 C hR hr h R  ih hf
noncomputable def F_X5_backs_0 (s0 : bb_O) : Option (bb_O) := F_X5_backs_2 bb_N s0 ((0 : Int32))
set_option maxHeartbeats 4000000 in
set_option maxRecDepth 100000 in
theorem B_X5_backs_0 {X : bb_X} (C : bb_C X RX5 cX5_backs 2) (hR : bb_r X 1) (hr : X.meth.sig.returnType = none) (h : Nat → Nat) {z : (bb_O)} (R : bb_R X none (wX5 X.cs h z)) {s0 : bb_O} (hf : F_X5_backs_0 s0 = some z) : bb_Z X 2 (wX5 X.cs h s0) 0 [(0, .ref (h 0))] [] := by
  refine z_iconst (pc := 0) C (0 : Int32) dX5_backs_0 (by decide) ?_
  refine z_istore_n (pc := 1) (i := 1) (lv' := [(1, .int ((0 : Int32))), (0, .ref (h 0))]) C dX5_backs_1 rfl (by decide) rfl ?_
  refine z_lv [1, 0] rfl ?_
  exact B_X5_backs_2 C hR hr h R  bb_N _ _ hf
theorem c_X5_backs {l : Launch} {D : va_G} {cs : Nat → ClassId} (h : Nat → Nat) {s0 : bb_O} {z : (bb_O)} (hf : F_X5_backs_0 s0 = some z) : bb_M l yX5_backs cX5_backs 2 none 1 D cs [.ref (h 0)] none (wX5 cs h s0) (wX5 cs h z) := bb_mg (by decide) rfl (Nat.le_of_ble_eq_true rfl) rfl (fun X hl hD hcs C hR hr R => by
  subst hl
  subst hD
  subst hcs
  exact B_X5_backs_0 C hR hr h R hf)
/-! X5_ahead: writes, level 6 -/
noncomputable def F_X5_ahead_24 (s0 : bb_O) : Option (Int32 × bb_O) := some ((-1 : Int32), s0)
set_option maxHeartbeats 4000000 in
set_option maxRecDepth 100000 in
theorem B_X5_ahead_24 {X : bb_X} (C : bb_C X RX5 cX5_ahead 4) (hR : bb_r X 6) (hr : X.meth.sig.returnType = (some .int)) (h : Nat → Nat) {z : (Int32 × bb_O)} (R : bb_R X (some (.int z.1)) (wX5 X.cs h z.2)) {s0 : bb_O} (hf : F_X5_ahead_24 s0 = some z) : bb_Z X 4 (wX5 X.cs h s0) 24 [] [] := by
  refine z_iconst (pc := 24) C (-1 : Int32) dX5_ahead_24 (by decide) ?_
  obtain rfl := Option.some.inj hf
  exact z_iret (pc := 25) C hr R dX5_ahead_25
noncomputable def F_X5_ahead_71 (s0 : bb_O) (y0 : Int32) : Option (Int32 × bb_O) := (F_X5_backs_0 s0).bind (fun q1 => some (y0, q1))
set_option maxHeartbeats 4000000 in
set_option maxRecDepth 100000 in
theorem B_X5_ahead_71 {X : bb_X} (C : bb_C X RX5 cX5_ahead 4) (hR : bb_r X 6) (hr : X.meth.sig.returnType = (some .int)) (h : Nat → Nat) {z : (Int32 × bb_O)} (R : bb_R X (some (.int z.1)) (wX5 X.cs h z.2)) {s0 : bb_O} {y0 : Int32} (hf : F_X5_ahead_71 s0 y0 = some z) : bb_Z X 4 (wX5 X.cs h s0) 71 [(0, .ref (h 0))] [.int y0] := by
  refine z_istore_n (pc := 71) (i := 3) (lv' := [(3, .int y0), (0, .ref (h 0))]) C dX5_ahead_71 rfl (by decide) rfl ?_
  refine z_aload_n (pc := 72) (i := 0) C 1 dX5_ahead_72 rfl rfl ?_
  obtain ⟨q1, hq1, hf⟩ := bb_b_some hf
  refine z_callVv (pc := 73) (ci := 5) (q0 := 0) (As := []) (rest := []) (ws' := wX5 X.cs h q1) C (hR.le (by decide)) (c_X5_backs h hq1) (bb_cut_self _ _) bv_X5_backs bm_X5_176 rfl rfl rfl rfl (Nat.le_of_ble_eq_true rfl) dX5_ahead_73 ?_
  refine z_iload_n (pc := 76) (i := 3) C 0 dX5_ahead_76 rfl rfl ?_
  obtain rfl := Option.some.inj hf
  exact z_iret (pc := 77) C hr R dX5_ahead_77
noncomputable def F_X5_ahead_42 (k32 : bb_O → Int32 → Int32 → Int32 → Option (Int32 × bb_O)) (s0 : bb_O) (x1 : Int32) (x2 : Int32) (x3 : Int32) : Option (Int32 × bb_O) := k32 s0 x1 x2 (x3 + 1)
set_option maxHeartbeats 4000000 in
set_option maxRecDepth 100000 in
theorem B_X5_ahead_42 {X : bb_X} (C : bb_C X RX5 cX5_ahead 4) (hR : bb_r X 6) (hr : X.meth.sig.returnType = (some .int)) (h : Nat → Nat) {z : (Int32 × bb_O)} (R : bb_R X (some (.int z.1)) (wX5 X.cs h z.2)) {k32 : bb_O → Int32 → Int32 → Int32 → Option (Int32 × bb_O)} (hk32 : ∀ (s0 : bb_O) (x1 : Int32) (x2 : Int32) (x3 : Int32), k32 s0 x1 x2 x3 = some z → bb_Z X 4 (wX5 X.cs h s0) 32 [(0, .ref (h 0)), (1, .int x1), (2, .int x2), (3, .int x3)] []) {s0 : bb_O} {x1 : Int32} {x2 : Int32} {x3 : Int32} (hf : F_X5_ahead_42 k32 s0 x1 x2 x3 = some z) : bb_Z X 4 (wX5 X.cs h s0) 42 [(0, .ref (h 0)), (1, .int x1), (2, .int x2), (3, .int x3)] [] := by
  refine z_iinc (pc := 42) (lv' := [(3, .int (x3 + 1)), (0, .ref (h 0)), (1, .int x1), (2, .int x2)]) C (x3 + 1) 3 dX5_ahead_42 rfl rfl (by decide) rfl ?_
  refine z_goto (pc := 45) C 32 dX5_ahead_45 (by decide) ?_
  refine z_lv [1, 2, 3, 0] rfl ?_
  exact hk32 _ _ _ _ hf
noncomputable def G_X5_ahead_32 (k32 : bb_O → Int32 → Int32 → Int32 → Option (Int32 × bb_O)) (s0 : bb_O) (x1 : Int32) (x2 : Int32) (x3 : Int32) : Option (Int32 × bb_O) := if x1 ≤ x3 then (if x2 = 0 then (F_X5_ahead_71 s0 (s0.2.1 0 3)) else (bb_g (vp_in ((((5 : Int32)) + x2) - ((1 : Int32))) 39) (F_X5_ahead_71 s0 (s0.2.1 0 ((((5 : Int32)) + x2) - ((1 : Int32))).toNatClampNeg)))) else ((F_X5_goesBy_0 s0).bind (fun q4 => F_X5_ahead_42 k32 q4.2 x1 x2 x3))
noncomputable def F_X5_ahead_32  : Nat → bb_O → Int32 → Int32 → Int32 → Option (Int32 × bb_O)
  | 0, _, _, _, _ => none
  | n + 1, s0, x1, x2, x3 => G_X5_ahead_32  (F_X5_ahead_32  n) s0 x1 x2 x3
set_option maxHeartbeats 4000000 in
set_option maxRecDepth 100000 in
theorem A_X5_ahead_32 {X : bb_X} (C : bb_C X RX5 cX5_ahead 4) (hR : bb_r X 6) (hr : X.meth.sig.returnType = (some .int)) (h : Nat → Nat) {z : (Int32 × bb_O)} (R : bb_R X (some (.int z.1)) (wX5 X.cs h z.2)) {k32 : bb_O → Int32 → Int32 → Int32 → Option (Int32 × bb_O)} (hk32 : ∀ (s0 : bb_O) (x1 : Int32) (x2 : Int32) (x3 : Int32), k32 s0 x1 x2 x3 = some z → bb_Z X 4 (wX5 X.cs h s0) 32 [(0, .ref (h 0)), (1, .int x1), (2, .int x2), (3, .int x3)] []) {s0 : bb_O} {x1 : Int32} {x2 : Int32} {x3 : Int32} (hf : G_X5_ahead_32 k32 s0 x1 x2 x3 = some z) : bb_Z X 4 (wX5 X.cs h s0) 32 [(0, .ref (h 0)), (1, .int x1), (2, .int x2), (3, .int x3)] [] := by
  refine z_iload_n (pc := 32) (i := 3) C 3 dX5_ahead_32 rfl rfl ?_
  refine z_iload_n (pc := 33) (i := 1) C 1 dX5_ahead_33 rfl rfl ?_
  refine z_icmp_ge (pc := 34) C 48 dX5_ahead_34 (by decide) (fun hc1 => ?_) (fun hc1 => ?_)
  · have hf := bb_t hf hc1
    refine z_iload_n (pc := 48) (i := 2) C 2 dX5_ahead_48 rfl rfl ?_
    refine z_if_ne (pc := 49) C 61 dX5_ahead_49 (by decide) (fun hc2 => ?_) (fun hc2 => ?_)
    · have hf := bb_e hf hc2
      refine z_aload_n (pc := 61) (i := 0) C 0 dX5_ahead_61 rfl rfl ?_
      refine z_get (pc := 62) (ci := 5) C (.ref (h 1)) bi_X5 rfl 0 0 (by decide) rfl bf_X5_7 rfl rfl dX5_ahead_62 ?_
      refine z_iconst (pc := 65) C (5 : Int32) dX5_ahead_65 (by decide) ?_
      refine z_iload_n (pc := 66) (i := 2) C 2 dX5_ahead_66 rfl rfl ?_
      refine z_iadd (pc := 67) C dX5_ahead_67 ?_
      refine z_iconst (pc := 68) C (1 : Int32) dX5_ahead_68 (by decide) ?_
      refine z_isub (pc := 69) C dX5_ahead_69 ?_
      obtain ⟨hv3, hf⟩ := bb_g_some hf
      refine z_iald (pc := 70) C 1 0 (((((5 : Int32)) + x2) - ((1 : Int32))).toNatClampNeg) rfl rfl hv3 rfl dX5_ahead_70 ?_
      refine z_lv [0] rfl ?_
      exact B_X5_ahead_71 C hR hr h R  hf
    · have hf := bb_t hf hc2
      refine z_aload_n (pc := 52) (i := 0) C 0 dX5_ahead_52 rfl rfl ?_
      refine z_get (pc := 53) (ci := 5) C (.ref (h 1)) bi_X5 rfl 0 0 (by decide) rfl bf_X5_7 rfl rfl dX5_ahead_53 ?_
      refine z_iconst (pc := 56) C (3 : Int32) dX5_ahead_56 (by decide) ?_
      refine z_iald (pc := 57) C 1 0 (3) rfl rfl (show ¬ ((3 : Int32) < 0 ∨ 39 ≤ (3 : Int32).toNatClampNeg) by decide) (by decide) dX5_ahead_57 ?_
      refine z_goto (pc := 58) C 71 dX5_ahead_58 (by decide) ?_
      refine z_lv [0] rfl ?_
      exact B_X5_ahead_71 C hR hr h R  hf
  · have hf := bb_e hf hc1
    refine z_aload_n (pc := 37) (i := 0) C 0 dX5_ahead_37 rfl rfl ?_
    obtain ⟨q4, hq4, hf⟩ := bb_b_some hf
    refine z_callVi (pc := 38) (ci := 5) (q0 := 0) (As := []) (rest := []) (ws' := wX5 X.cs h q4.2) C (hR.le (by decide)) (c_X5_goesBy h hq4) (bb_cut_self _ _) bv_X5_goesBy bm_X5_155 rfl rfl rfl rfl (Nat.le_of_ble_eq_true rfl) dX5_ahead_38 ?_
    refine z_pop (pc := 41) C dX5_ahead_41 rfl ?_
    exact B_X5_ahead_42 C hR hr h R hk32 hf
theorem B_X5_ahead_32 {X : bb_X} (C : bb_C X RX5 cX5_ahead 4) (hR : bb_r X 6) (hr : X.meth.sig.returnType = (some .int)) (h : Nat → Nat) {z : (Int32 × bb_O)} (R : bb_R X (some (.int z.1)) (wX5 X.cs h z.2)) : ∀ (n : Nat) (s0 : bb_O) (x1 : Int32) (x2 : Int32) (x3 : Int32), F_X5_ahead_32  n s0 x1 x2 x3 = some z → bb_Z X 4 (wX5 X.cs h s0) 32 [(0, .ref (h 0)), (1, .int x1), (2, .int x2), (3, .int x3)] [] := by
  intro n
  induction n with
  | zero =>
    intro s0 x1 x2 x3 hf
    cases hf
  | succ n ih =>
    intro s0 x1 x2 x3 hf
    exact A_X5_ahead_32 C hR hr h R  ih hf
noncomputable def F_X5_ahead_0 (s0 : bb_O) (x1 : Int32) (x2 : Int32) : Option (Int32 × bb_O) := (F_X5_in_0 (x1.toInt64) ((0 : Int64)) ((60 : Int64))).bind (fun q1 => if q1 = 0 then (F_X5_ahead_24 s0) else ((F_X5_in_0 (x2.toInt64) ((0 : Int64)) ((3 : Int64))).bind (fun q3 => if q3 = 0 then (F_X5_ahead_24 s0) else ((F_X5_asides_0 s0).bind (fun q5 => F_X5_ahead_32 bb_N q5 x1 x2 ((0 : Int32)))))))
set_option maxHeartbeats 4000000 in
set_option maxRecDepth 100000 in
theorem B_X5_ahead_0 {X : bb_X} (C : bb_C X RX5 cX5_ahead 4) (hR : bb_r X 6) (hr : X.meth.sig.returnType = (some .int)) (h : Nat → Nat) {z : (Int32 × bb_O)} (R : bb_R X (some (.int z.1)) (wX5 X.cs h z.2)) {s0 : bb_O} {x1 : Int32} {x2 : Int32} (hf : F_X5_ahead_0 s0 x1 x2 = some z) : bb_Z X 4 (wX5 X.cs h s0) 0 [(0, .ref (h 0)), (1, .int x1), (2, .int x2)] [] := by
  refine z_iload_n (pc := 0) (i := 1) C 1 dX5_ahead_0 rfl rfl ?_
  refine z_i2l (pc := 1) C dX5_ahead_1 ?_
  refine z_lconst (pc := 2) C (0 : Int64) dX5_ahead_2 (by decide) ?_
  refine z_ldc2_w (pc := 3) C bk_X5_171 dX5_ahead_3 ?_
  obtain ⟨q1, hq1, hf⟩ := bb_b_some hf
  refine z_callSi (pc := 6) (As := [.long (x1.toInt64), .long ((0 : Int64)), .long ((60 : Int64))]) (rest := []) C (hR.le (by decide)) (c_X5_in hq1) (bb_cut_none _) bv_X5_in bm_X5_49 rfl rfl (Nat.le_of_ble_eq_true rfl) dX5_ahead_6 ?_
  refine z_if_eq (pc := 9) C 24 dX5_ahead_9 (by decide) (fun hc2 => ?_) (fun hc2 => ?_)
  · have hf := bb_t hf hc2
    refine z_lv [] rfl ?_
    exact B_X5_ahead_24 C hR hr h R  hf
  · have hf := bb_e hf hc2
    refine z_iload_n (pc := 12) (i := 2) C 2 dX5_ahead_12 rfl rfl ?_
    refine z_i2l (pc := 13) C dX5_ahead_13 ?_
    refine z_lconst (pc := 14) C (0 : Int64) dX5_ahead_14 (by decide) ?_
    refine z_ldc2_w (pc := 15) C bk_X5_159 dX5_ahead_15 ?_
    obtain ⟨q3, hq3, hf⟩ := bb_b_some hf
    refine z_callSi (pc := 18) (As := [.long (x2.toInt64), .long ((0 : Int64)), .long ((3 : Int64))]) (rest := []) C (hR.le (by decide)) (c_X5_in hq3) (bb_cut_none _) bv_X5_in bm_X5_49 rfl rfl (Nat.le_of_ble_eq_true rfl) dX5_ahead_18 ?_
    refine z_if_ne (pc := 21) C 26 dX5_ahead_21 (by decide) (fun hc4 => ?_) (fun hc4 => ?_)
    · have hf := bb_e hf hc4
      refine z_aload_n (pc := 26) (i := 0) C 0 dX5_ahead_26 rfl rfl ?_
      obtain ⟨q5, hq5, hf⟩ := bb_b_some hf
      refine z_callVv (pc := 27) (ci := 5) (q0 := 0) (As := []) (rest := []) (ws' := wX5 X.cs h q5) C (hR.le (by decide)) (c_X5_asides h hq5) (bb_cut_self _ _) bv_X5_asides bm_X5_173 rfl rfl rfl rfl (Nat.le_of_ble_eq_true rfl) dX5_ahead_27 ?_
      refine z_iconst (pc := 30) C (0 : Int32) dX5_ahead_30 (by decide) ?_
      refine z_istore_n (pc := 31) (i := 3) (lv' := [(3, .int ((0 : Int32))), (0, .ref (h 0)), (1, .int x1), (2, .int x2)]) C dX5_ahead_31 rfl (by decide) rfl ?_
      refine z_lv [1, 2, 3, 0] rfl ?_
      exact B_X5_ahead_32 C hR hr h R  bb_N _ _ _ _ hf
    · have hf := bb_t hf hc4
      refine z_lv [] rfl ?_
      exact B_X5_ahead_24 C hR hr h R  hf
theorem c_X5_ahead {l : Launch} {D : va_G} {cs : Nat → ClassId} (h : Nat → Nat) {s0 : bb_O} {x1 : Int32} {x2 : Int32} {z : (Int32 × bb_O)} (hf : F_X5_ahead_0 s0 x1 x2 = some z) : bb_M l yX5_ahead cX5_ahead 4 (some .int) 6 D cs [.ref (h 0), .int x1, .int x2] (some (.int z.1)) (wX5 cs h s0) (wX5 cs h z.2) := bb_mg (by decide) rfl (Nat.le_of_ble_eq_true rfl) rfl (fun X hl hD hcs C hR hr R => by
  subst hl
  subst hD
  subst hcs
  exact B_X5_ahead_0 C hR hr h R hf)
/-! X5_nextBehind: writes, level 6 -/
noncomputable def F_X5_nextBehind_39 (s0 : bb_O) (y0 : Int32) : Option (Int32 × bb_O) := some (y0, s0)
set_option maxHeartbeats 4000000 in
set_option maxRecDepth 100000 in
theorem B_X5_nextBehind_39 {X : bb_X} (C : bb_C X RX5 cX5_nextBehind 3) (hR : bb_r X 6) (hr : X.meth.sig.returnType = (some .int)) (h : Nat → Nat) {z : (Int32 × bb_O)} (R : bb_R X (some (.int z.1)) (wX5 X.cs h z.2)) {s0 : bb_O} {y0 : Int32} (hf : F_X5_nextBehind_39 s0 y0 = some z) : bb_Z X 3 (wX5 X.cs h s0) 39 [] [.int y0] := by
  obtain rfl := Option.some.inj hf
  exact z_iret (pc := 39) C hr R dX5_nextBehind_39
noncomputable def F_X5_nextBehind_25 (s0 : bb_O) (x1 : Int32) (x2 : Int32) : Option (Int32 × bb_O) := (F_X5_backs_0 s0).bind (fun q1 => if x2 = 0 then (F_X5_nextBehind_39 q1 ((61 : Int32))) else (F_X5_nextBehind_39 q1 x1))
set_option maxHeartbeats 4000000 in
set_option maxRecDepth 100000 in
theorem B_X5_nextBehind_25 {X : bb_X} (C : bb_C X RX5 cX5_nextBehind 3) (hR : bb_r X 6) (hr : X.meth.sig.returnType = (some .int)) (h : Nat → Nat) {z : (Int32 × bb_O)} (R : bb_R X (some (.int z.1)) (wX5 X.cs h z.2)) {s0 : bb_O} {x1 : Int32} {x2 : Int32} (hf : F_X5_nextBehind_25 s0 x1 x2 = some z) : bb_Z X 3 (wX5 X.cs h s0) 25 [(0, .ref (h 0)), (1, .int x1), (2, .int x2)] [] := by
  refine z_aload_n (pc := 25) (i := 0) C 0 dX5_nextBehind_25 rfl rfl ?_
  obtain ⟨q1, hq1, hf⟩ := bb_b_some hf
  refine z_callVv (pc := 26) (ci := 5) (q0 := 0) (As := []) (rest := []) (ws' := wX5 X.cs h q1) C (hR.le (by decide)) (c_X5_backs h hq1) (bb_cut_self _ _) bv_X5_backs bm_X5_176 rfl rfl rfl rfl (Nat.le_of_ble_eq_true rfl) dX5_nextBehind_26 ?_
  refine z_iload_n (pc := 29) (i := 2) C 2 dX5_nextBehind_29 rfl rfl ?_
  refine z_if_eq (pc := 30) C 37 dX5_nextBehind_30 (by decide) (fun hc2 => ?_) (fun hc2 => ?_)
  · have hf := bb_t hf hc2
    refine z_bipush (pc := 37) C (61 : Int32) dX5_nextBehind_37 (by decide) ?_
    refine z_lv [] rfl ?_
    exact B_X5_nextBehind_39 C hR hr h R  hf
  · have hf := bb_e hf hc2
    refine z_iload_n (pc := 33) (i := 1) C 1 dX5_nextBehind_33 rfl rfl ?_
    refine z_goto (pc := 34) C 39 dX5_nextBehind_34 (by decide) ?_
    refine z_lv [] rfl ?_
    exact B_X5_nextBehind_39 C hR hr h R  hf
noncomputable def F_X5_nextBehind_19 (k4 : bb_O → Int32 → Int32 → Option (Int32 × bb_O)) (s0 : bb_O) (x1 : Int32) (x2 : Int32) : Option (Int32 × bb_O) := k4 s0 (x1 + 1) x2
set_option maxHeartbeats 4000000 in
set_option maxRecDepth 100000 in
theorem B_X5_nextBehind_19 {X : bb_X} (C : bb_C X RX5 cX5_nextBehind 3) (hR : bb_r X 6) (hr : X.meth.sig.returnType = (some .int)) (h : Nat → Nat) {z : (Int32 × bb_O)} (R : bb_R X (some (.int z.1)) (wX5 X.cs h z.2)) {k4 : bb_O → Int32 → Int32 → Option (Int32 × bb_O)} (hk4 : ∀ (s0 : bb_O) (x1 : Int32) (x2 : Int32), k4 s0 x1 x2 = some z → bb_Z X 3 (wX5 X.cs h s0) 4 [(0, .ref (h 0)), (1, .int x1), (2, .int x2)] []) {s0 : bb_O} {x1 : Int32} {x2 : Int32} (hf : F_X5_nextBehind_19 k4 s0 x1 x2 = some z) : bb_Z X 3 (wX5 X.cs h s0) 19 [(0, .ref (h 0)), (1, .int x1), (2, .int x2)] [] := by
  refine z_iinc (pc := 19) (lv' := [(1, .int (x1 + 1)), (0, .ref (h 0)), (2, .int x2)]) C (x1 + 1) 1 dX5_nextBehind_19 rfl rfl (by decide) rfl ?_
  refine z_goto (pc := 22) C 4 dX5_nextBehind_22 (by decide) ?_
  refine z_lv [1, 0, 2] rfl ?_
  exact hk4 _ _ _ hf
noncomputable def G_X5_nextBehind_4 (k4 : bb_O → Int32 → Int32 → Option (Int32 × bb_O)) (s0 : bb_O) (x1 : Int32) (x2 : Int32) : Option (Int32 × bb_O) := if ((60 : Int32)) ≤ x1 then (F_X5_nextBehind_25 s0 x1 x2) else (if x2 = 0 then ((F_X5_goesBy_0 s0).bind (fun q3 => F_X5_nextBehind_19 k4 q3.2 x1 q3.1)) else (F_X5_nextBehind_25 s0 x1 x2))
noncomputable def F_X5_nextBehind_4  : Nat → bb_O → Int32 → Int32 → Option (Int32 × bb_O)
  | 0, _, _, _ => none
  | n + 1, s0, x1, x2 => G_X5_nextBehind_4  (F_X5_nextBehind_4  n) s0 x1 x2
set_option maxHeartbeats 4000000 in
set_option maxRecDepth 100000 in
theorem A_X5_nextBehind_4 {X : bb_X} (C : bb_C X RX5 cX5_nextBehind 3) (hR : bb_r X 6) (hr : X.meth.sig.returnType = (some .int)) (h : Nat → Nat) {z : (Int32 × bb_O)} (R : bb_R X (some (.int z.1)) (wX5 X.cs h z.2)) {k4 : bb_O → Int32 → Int32 → Option (Int32 × bb_O)} (hk4 : ∀ (s0 : bb_O) (x1 : Int32) (x2 : Int32), k4 s0 x1 x2 = some z → bb_Z X 3 (wX5 X.cs h s0) 4 [(0, .ref (h 0)), (1, .int x1), (2, .int x2)] []) {s0 : bb_O} {x1 : Int32} {x2 : Int32} (hf : G_X5_nextBehind_4 k4 s0 x1 x2 = some z) : bb_Z X 3 (wX5 X.cs h s0) 4 [(0, .ref (h 0)), (1, .int x1), (2, .int x2)] [] := by
  refine z_iload_n (pc := 4) (i := 1) C 1 dX5_nextBehind_4 rfl rfl ?_
  refine z_bipush (pc := 5) C (60 : Int32) dX5_nextBehind_5 (by decide) ?_
  refine z_icmp_ge (pc := 7) C 25 dX5_nextBehind_7 (by decide) (fun hc1 => ?_) (fun hc1 => ?_)
  · have hf := bb_t hf hc1
    exact B_X5_nextBehind_25 C hR hr h R  hf
  · have hf := bb_e hf hc1
    refine z_iload_n (pc := 10) (i := 2) C 2 dX5_nextBehind_10 rfl rfl ?_
    refine z_if_ne (pc := 11) C 25 dX5_nextBehind_11 (by decide) (fun hc2 => ?_) (fun hc2 => ?_)
    · have hf := bb_e hf hc2
      exact B_X5_nextBehind_25 C hR hr h R  hf
    · have hf := bb_t hf hc2
      refine z_aload_n (pc := 14) (i := 0) C 0 dX5_nextBehind_14 rfl rfl ?_
      obtain ⟨q3, hq3, hf⟩ := bb_b_some hf
      refine z_callVi (pc := 15) (ci := 5) (q0 := 0) (As := []) (rest := []) (ws' := wX5 X.cs h q3.2) C (hR.le (by decide)) (c_X5_goesBy h hq3) (bb_cut_self _ _) bv_X5_goesBy bm_X5_155 rfl rfl rfl rfl (Nat.le_of_ble_eq_true rfl) dX5_nextBehind_15 ?_
      refine z_istore_n (pc := 18) (i := 2) (lv' := [(2, .int q3.1), (0, .ref (h 0)), (1, .int x1)]) C dX5_nextBehind_18 rfl (by decide) rfl ?_
      refine z_lv [1, 2, 0] rfl ?_
      exact B_X5_nextBehind_19 C hR hr h R hk4 hf
theorem B_X5_nextBehind_4 {X : bb_X} (C : bb_C X RX5 cX5_nextBehind 3) (hR : bb_r X 6) (hr : X.meth.sig.returnType = (some .int)) (h : Nat → Nat) {z : (Int32 × bb_O)} (R : bb_R X (some (.int z.1)) (wX5 X.cs h z.2)) : ∀ (n : Nat) (s0 : bb_O) (x1 : Int32) (x2 : Int32), F_X5_nextBehind_4  n s0 x1 x2 = some z → bb_Z X 3 (wX5 X.cs h s0) 4 [(0, .ref (h 0)), (1, .int x1), (2, .int x2)] [] := by
  intro n
  induction n with
  | zero =>
    intro s0 x1 x2 hf
    cases hf
  | succ n ih =>
    intro s0 x1 x2 hf
    exact A_X5_nextBehind_4 C hR hr h R  ih hf
noncomputable def F_X5_nextBehind_0 (s0 : bb_O) : Option (Int32 × bb_O) := F_X5_nextBehind_4 bb_N s0 ((0 : Int32)) ((0 : Int32))
set_option maxHeartbeats 4000000 in
set_option maxRecDepth 100000 in
theorem B_X5_nextBehind_0 {X : bb_X} (C : bb_C X RX5 cX5_nextBehind 3) (hR : bb_r X 6) (hr : X.meth.sig.returnType = (some .int)) (h : Nat → Nat) {z : (Int32 × bb_O)} (R : bb_R X (some (.int z.1)) (wX5 X.cs h z.2)) {s0 : bb_O} (hf : F_X5_nextBehind_0 s0 = some z) : bb_Z X 3 (wX5 X.cs h s0) 0 [(0, .ref (h 0))] [] := by
  refine z_iconst (pc := 0) C (0 : Int32) dX5_nextBehind_0 (by decide) ?_
  refine z_istore_n (pc := 1) (i := 1) (lv' := [(1, .int ((0 : Int32))), (0, .ref (h 0))]) C dX5_nextBehind_1 rfl (by decide) rfl ?_
  refine z_iconst (pc := 2) C (0 : Int32) dX5_nextBehind_2 (by decide) ?_
  refine z_istore_n (pc := 3) (i := 2) (lv' := [(2, .int ((0 : Int32))), (1, .int ((0 : Int32))), (0, .ref (h 0))]) C dX5_nextBehind_3 rfl (by decide) rfl ?_
  refine z_lv [2, 1, 0] rfl ?_
  exact B_X5_nextBehind_4 C hR hr h R  bb_N _ _ _ hf
theorem c_X5_nextBehind {l : Launch} {D : va_G} {cs : Nat → ClassId} (h : Nat → Nat) {s0 : bb_O} {z : (Int32 × bb_O)} (hf : F_X5_nextBehind_0 s0 = some z) : bb_M l yX5_nextBehind cX5_nextBehind 3 (some .int) 6 D cs [.ref (h 0)] (some (.int z.1)) (wX5 cs h s0) (wX5 cs h z.2) := bb_mg (by decide) rfl (Nat.le_of_ble_eq_true rfl) rfl (fun X hl hD hcs C hR hr R => by
  subst hl
  subst hD
  subst hcs
  exact B_X5_nextBehind_0 C hR hr h R hf)
/-! X5_next: writes, level 7 -/
noncomputable def F_X5_next_58 (s0 : bb_O) (y0 : Int32) : Option (Int32 × bb_O) := some (y0, s0)
set_option maxHeartbeats 4000000 in
set_option maxRecDepth 100000 in
theorem B_X5_next_58 {X : bb_X} (C : bb_C X RX5 cX5_next 3) (hR : bb_r X 7) (hr : X.meth.sig.returnType = (some .int)) (h : Nat → Nat) {z : (Int32 × bb_O)} (R : bb_R X (some (.int z.1)) (wX5 X.cs h z.2)) {s0 : bb_O} {y0 : Int32} (hf : F_X5_next_58 s0 y0 = some z) : bb_Z X 3 (wX5 X.cs h s0) 58 [] [.int y0] := by
  obtain rfl := Option.some.inj hf
  exact z_iret (pc := 58) C hr R dX5_next_58
noncomputable def F_X5_next_23 (s0 : bb_O) (x1 : Int32) (x2 : Int32) : Option (Int32 × bb_O) := if x2 = ((61 : Int32)) then (F_X5_next_58 s0 ((-4 : Int32))) else (if x1 = 0 then (F_X5_next_58 s0 (s0.1 1)) else (if x1 = ((1 : Int32)) then (F_X5_next_58 s0 x2) else (F_X5_next_58 s0 (s0.1 2))))
set_option maxHeartbeats 4000000 in
set_option maxRecDepth 100000 in
theorem B_X5_next_23 {X : bb_X} (C : bb_C X RX5 cX5_next 3) (hR : bb_r X 7) (hr : X.meth.sig.returnType = (some .int)) (h : Nat → Nat) {z : (Int32 × bb_O)} (R : bb_R X (some (.int z.1)) (wX5 X.cs h z.2)) {s0 : bb_O} {x1 : Int32} {x2 : Int32} (hf : F_X5_next_23 s0 x1 x2 = some z) : bb_Z X 3 (wX5 X.cs h s0) 23 [(0, .ref (h 0)), (1, .int x1), (2, .int x2)] [] := by
  refine z_iload_n (pc := 23) (i := 2) C 2 dX5_next_23 rfl rfl ?_
  refine z_bipush (pc := 24) C (61 : Int32) dX5_next_24 (by decide) ?_
  refine z_icmp_ne (pc := 26) C 34 dX5_next_26 (by decide) (fun hc1 => ?_) (fun hc1 => ?_)
  · have hf := bb_e hf hc1
    refine z_iload_n (pc := 34) (i := 1) C 1 dX5_next_34 rfl rfl ?_
    refine z_if_ne (pc := 35) C 45 dX5_next_35 (by decide) (fun hc2 => ?_) (fun hc2 => ?_)
    · have hf := bb_e hf hc2
      refine z_iload_n (pc := 45) (i := 1) C 1 dX5_next_45 rfl rfl ?_
      refine z_iconst (pc := 46) C (1 : Int32) dX5_next_46 (by decide) ?_
      refine z_icmp_ne (pc := 47) C 54 dX5_next_47 (by decide) (fun hc3 => ?_) (fun hc3 => ?_)
      · have hf := bb_e hf hc3
        refine z_aload_n (pc := 54) (i := 0) C 0 dX5_next_54 rfl rfl ?_
        refine z_get (pc := 55) (ci := 5) C (.int (s0.1 2)) bi_X5 rfl 0 2 (by decide) rfl bf_X5_86 rfl rfl dX5_next_55 ?_
        refine z_lv [] rfl ?_
        exact B_X5_next_58 C hR hr h R  hf
      · have hf := bb_t hf hc3
        refine z_iload_n (pc := 50) (i := 2) C 2 dX5_next_50 rfl rfl ?_
        refine z_goto (pc := 51) C 58 dX5_next_51 (by decide) ?_
        refine z_lv [] rfl ?_
        exact B_X5_next_58 C hR hr h R  hf
    · have hf := bb_t hf hc2
      refine z_aload_n (pc := 38) (i := 0) C 0 dX5_next_38 rfl rfl ?_
      refine z_get (pc := 39) (ci := 5) C (.int (s0.1 1)) bi_X5 rfl 0 1 (by decide) rfl bf_X5_80 rfl rfl dX5_next_39 ?_
      refine z_goto (pc := 42) C 58 dX5_next_42 (by decide) ?_
      refine z_lv [] rfl ?_
      exact B_X5_next_58 C hR hr h R  hf
  · have hf := bb_t hf hc1
    refine z_bipush (pc := 29) C (-4 : Int32) dX5_next_29 (by decide) ?_
    refine z_goto (pc := 31) C 58 dX5_next_31 (by decide) ?_
    refine z_lv [] rfl ?_
    exact B_X5_next_58 C hR hr h R  hf
noncomputable def F_X5_next_0 (s0 : bb_O) (x1 : Int32) : Option (Int32 × bb_O) := (F_X5_in_0 (x1.toInt64) ((0 : Int64)) ((2 : Int64))).bind (fun q1 => if q1 = 0 then (some ((-1 : Int32), s0)) else ((F_X5_asides_0 s0).bind (fun q3 => (F_X5_nextBehind_0 q3).bind (fun q4 => F_X5_next_23 q4.2 x1 q4.1))))
set_option maxHeartbeats 4000000 in
set_option maxRecDepth 100000 in
theorem B_X5_next_0 {X : bb_X} (C : bb_C X RX5 cX5_next 3) (hR : bb_r X 7) (hr : X.meth.sig.returnType = (some .int)) (h : Nat → Nat) {z : (Int32 × bb_O)} (R : bb_R X (some (.int z.1)) (wX5 X.cs h z.2)) {s0 : bb_O} {x1 : Int32} (hf : F_X5_next_0 s0 x1 = some z) : bb_Z X 3 (wX5 X.cs h s0) 0 [(0, .ref (h 0)), (1, .int x1)] [] := by
  refine z_iload_n (pc := 0) (i := 1) C 1 dX5_next_0 rfl rfl ?_
  refine z_i2l (pc := 1) C dX5_next_1 ?_
  refine z_lconst (pc := 2) C (0 : Int64) dX5_next_2 (by decide) ?_
  refine z_ldc2_w (pc := 3) C bk_X5_89 dX5_next_3 ?_
  obtain ⟨q1, hq1, hf⟩ := bb_b_some hf
  refine z_callSi (pc := 6) (As := [.long (x1.toInt64), .long ((0 : Int64)), .long ((2 : Int64))]) (rest := []) C (hR.le (by decide)) (c_X5_in hq1) (bb_cut_none _) bv_X5_in bm_X5_49 rfl rfl (Nat.le_of_ble_eq_true rfl) dX5_next_6 ?_
  refine z_if_ne (pc := 9) C 14 dX5_next_9 (by decide) (fun hc2 => ?_) (fun hc2 => ?_)
  · have hf := bb_e hf hc2
    refine z_aload_n (pc := 14) (i := 0) C 0 dX5_next_14 rfl rfl ?_
    obtain ⟨q3, hq3, hf⟩ := bb_b_some hf
    refine z_callVv (pc := 15) (ci := 5) (q0 := 0) (As := []) (rest := []) (ws' := wX5 X.cs h q3) C (hR.le (by decide)) (c_X5_asides h hq3) (bb_cut_self _ _) bv_X5_asides bm_X5_173 rfl rfl rfl rfl (Nat.le_of_ble_eq_true rfl) dX5_next_15 ?_
    refine z_aload_n (pc := 18) (i := 0) C 0 dX5_next_18 rfl rfl ?_
    obtain ⟨q4, hq4, hf⟩ := bb_b_some hf
    refine z_callVi (pc := 19) (ci := 5) (q0 := 0) (As := []) (rest := []) (ws' := wX5 X.cs h q4.2) C (hR.le (by decide)) (c_X5_nextBehind h hq4) (bb_cut_self _ _) bv_X5_nextBehind bm_X5_179 rfl rfl rfl rfl (Nat.le_of_ble_eq_true rfl) dX5_next_19 ?_
    refine z_istore_n (pc := 22) (i := 2) (lv' := [(2, .int q4.1), (0, .ref (h 0)), (1, .int x1)]) C dX5_next_22 rfl (by decide) rfl ?_
    refine z_lv [1, 2, 0] rfl ?_
    exact B_X5_next_23 C hR hr h R  hf
  · have hf := bb_t hf hc2
    refine z_iconst (pc := 12) C (-1 : Int32) dX5_next_12 (by decide) ?_
    obtain rfl := Option.some.inj hf
    exact z_iret (pc := 13) C hr R dX5_next_13
theorem c_X5_next {l : Launch} {D : va_G} {cs : Nat → ClassId} (h : Nat → Nat) {s0 : bb_O} {x1 : Int32} {z : (Int32 × bb_O)} (hf : F_X5_next_0 s0 x1 = some z) : bb_M l yX5_next cX5_next 3 (some .int) 7 D cs [.ref (h 0), .int x1] (some (.int z.1)) (wX5 cs h s0) (wX5 cs h z.2) := bb_mg (by decide) rfl (Nat.le_of_ble_eq_true rfl) rfl (fun X hl hD hcs C hR hr R => by
  subst hl
  subst hD
  subst hcs
  exact B_X5_next_0 C hR hr h R hf)
/-! X5_caughtBehind: writes, level 6 -/
noncomputable def F_X5_caughtBehind_40 (s0 : bb_O) (y0 : Int32) : Option (Int32 × bb_O) := (F_X5_backs_0 s0).bind (fun q1 => some (y0, q1))
set_option maxHeartbeats 4000000 in
set_option maxRecDepth 100000 in
theorem B_X5_caughtBehind_40 {X : bb_X} (C : bb_C X RX5 cX5_caughtBehind 5) (hR : bb_r X 6) (hr : X.meth.sig.returnType = (some .int)) (h : Nat → Nat) {z : (Int32 × bb_O)} (R : bb_R X (some (.int z.1)) (wX5 X.cs h z.2)) {s0 : bb_O} {y0 : Int32} (hf : F_X5_caughtBehind_40 s0 y0 = some z) : bb_Z X 5 (wX5 X.cs h s0) 40 [(0, .ref (h 0))] [.int y0] := by
  refine z_istore (pc := 40) (lv' := [(4, .int y0), (0, .ref (h 0))]) C dX5_caughtBehind_40 (by decide) rfl ?_
  refine z_aload_n (pc := 42) (i := 0) C 1 dX5_caughtBehind_42 rfl rfl ?_
  obtain ⟨q1, hq1, hf⟩ := bb_b_some hf
  refine z_callVv (pc := 43) (ci := 5) (q0 := 0) (As := []) (rest := []) (ws' := wX5 X.cs h q1) C (hR.le (by decide)) (c_X5_backs h hq1) (bb_cut_self _ _) bv_X5_backs bm_X5_176 rfl rfl rfl rfl (Nat.le_of_ble_eq_true rfl) dX5_caughtBehind_43 ?_
  refine z_iload (pc := 46) C 0 dX5_caughtBehind_46 rfl ?_
  obtain rfl := Option.some.inj hf
  exact z_iret (pc := 48) C hr R dX5_caughtBehind_48
noncomputable def F_X5_caughtBehind_26 (s0 : bb_O) (x1 : Int32) (x3 : Int32) : Option (Int32 × bb_O) := (F_X5_isFree_0 s0 x1).bind (fun q1 => if q1 = 0 then (F_X5_caughtBehind_40 s0 x3) else (F_X5_caughtBehind_40 s0 ((61 : Int32))))
set_option maxHeartbeats 4000000 in
set_option maxRecDepth 100000 in
theorem B_X5_caughtBehind_26 {X : bb_X} (C : bb_C X RX5 cX5_caughtBehind 5) (hR : bb_r X 6) (hr : X.meth.sig.returnType = (some .int)) (h : Nat → Nat) {z : (Int32 × bb_O)} (R : bb_R X (some (.int z.1)) (wX5 X.cs h z.2)) {s0 : bb_O} {x1 : Int32} {x3 : Int32} (hf : F_X5_caughtBehind_26 s0 x1 x3 = some z) : bb_Z X 5 (wX5 X.cs h s0) 26 [(0, .ref (h 0)), (1, .int x1), (3, .int x3)] [] := by
  refine z_aload_n (pc := 26) (i := 0) C 0 dX5_caughtBehind_26 rfl rfl ?_
  refine z_iload_n (pc := 27) (i := 1) C 1 dX5_caughtBehind_27 rfl rfl ?_
  obtain ⟨q1, hq1, hf⟩ := bb_b_some hf
  refine z_callVi (pc := 28) (ci := 5) (q0 := 0) (As := [.int x1]) (rest := []) C (hR.le (by decide)) (c_X5_isFree h hq1) (bb_cut_self _ _) bv_X5_isFree bm_X5_67 rfl rfl rfl rfl (Nat.le_of_ble_eq_true rfl) dX5_caughtBehind_28 ?_
  refine z_if_eq (pc := 31) C 39 dX5_caughtBehind_31 (by decide) (fun hc2 => ?_) (fun hc2 => ?_)
  · have hf := bb_t hf hc2
    refine z_iload_n (pc := 39) (i := 3) C 2 dX5_caughtBehind_39 rfl rfl ?_
    refine z_lv [0] rfl ?_
    exact B_X5_caughtBehind_40 C hR hr h R  hf
  · have hf := bb_e hf hc2
    refine z_bipush (pc := 34) C (61 : Int32) dX5_caughtBehind_34 (by decide) ?_
    refine z_goto (pc := 36) C 40 dX5_caughtBehind_36 (by decide) ?_
    refine z_lv [0] rfl ?_
    exact B_X5_caughtBehind_40 C hR hr h R  hf
noncomputable def F_X5_caughtBehind_20 (k2 : bb_O → Int32 → Int32 → Int32 → Option (Int32 × bb_O)) (s0 : bb_O) (x1 : Int32) (x2 : Int32) (x3 : Int32) : Option (Int32 × bb_O) := k2 s0 x1 x2 (x3 + 1)
set_option maxHeartbeats 4000000 in
set_option maxRecDepth 100000 in
theorem B_X5_caughtBehind_20 {X : bb_X} (C : bb_C X RX5 cX5_caughtBehind 5) (hR : bb_r X 6) (hr : X.meth.sig.returnType = (some .int)) (h : Nat → Nat) {z : (Int32 × bb_O)} (R : bb_R X (some (.int z.1)) (wX5 X.cs h z.2)) {k2 : bb_O → Int32 → Int32 → Int32 → Option (Int32 × bb_O)} (hk2 : ∀ (s0 : bb_O) (x1 : Int32) (x2 : Int32) (x3 : Int32), k2 s0 x1 x2 x3 = some z → bb_Z X 5 (wX5 X.cs h s0) 2 [(0, .ref (h 0)), (1, .int x1), (2, .int x2), (3, .int x3)] []) {s0 : bb_O} {x1 : Int32} {x2 : Int32} {x3 : Int32} (hf : F_X5_caughtBehind_20 k2 s0 x1 x2 x3 = some z) : bb_Z X 5 (wX5 X.cs h s0) 20 [(0, .ref (h 0)), (1, .int x1), (2, .int x2), (3, .int x3)] [] := by
  refine z_iinc (pc := 20) (lv' := [(3, .int (x3 + 1)), (0, .ref (h 0)), (1, .int x1), (2, .int x2)]) C (x3 + 1) 3 dX5_caughtBehind_20 rfl rfl (by decide) rfl ?_
  refine z_goto (pc := 23) C 2 dX5_caughtBehind_23 (by decide) ?_
  refine z_lv [1, 2, 3, 0] rfl ?_
  exact hk2 _ _ _ _ hf
noncomputable def G_X5_caughtBehind_2 (k2 : bb_O → Int32 → Int32 → Int32 → Option (Int32 × bb_O)) (s0 : bb_O) (x1 : Int32) (x2 : Int32) (x3 : Int32) : Option (Int32 × bb_O) := if x2 ≤ x3 then (F_X5_caughtBehind_26 s0 x1 x3) else ((F_X5_isFree_0 s0 x1).bind (fun q2 => if q2 = 0 then (F_X5_caughtBehind_26 s0 x1 x3) else ((F_X5_goesBy_0 s0).bind (fun q4 => F_X5_caughtBehind_20 k2 q4.2 x1 x2 x3))))
noncomputable def F_X5_caughtBehind_2  : Nat → bb_O → Int32 → Int32 → Int32 → Option (Int32 × bb_O)
  | 0, _, _, _, _ => none
  | n + 1, s0, x1, x2, x3 => G_X5_caughtBehind_2  (F_X5_caughtBehind_2  n) s0 x1 x2 x3
set_option maxHeartbeats 4000000 in
set_option maxRecDepth 100000 in
theorem A_X5_caughtBehind_2 {X : bb_X} (C : bb_C X RX5 cX5_caughtBehind 5) (hR : bb_r X 6) (hr : X.meth.sig.returnType = (some .int)) (h : Nat → Nat) {z : (Int32 × bb_O)} (R : bb_R X (some (.int z.1)) (wX5 X.cs h z.2)) {k2 : bb_O → Int32 → Int32 → Int32 → Option (Int32 × bb_O)} (hk2 : ∀ (s0 : bb_O) (x1 : Int32) (x2 : Int32) (x3 : Int32), k2 s0 x1 x2 x3 = some z → bb_Z X 5 (wX5 X.cs h s0) 2 [(0, .ref (h 0)), (1, .int x1), (2, .int x2), (3, .int x3)] []) {s0 : bb_O} {x1 : Int32} {x2 : Int32} {x3 : Int32} (hf : G_X5_caughtBehind_2 k2 s0 x1 x2 x3 = some z) : bb_Z X 5 (wX5 X.cs h s0) 2 [(0, .ref (h 0)), (1, .int x1), (2, .int x2), (3, .int x3)] [] := by
  refine z_iload_n (pc := 2) (i := 3) C 3 dX5_caughtBehind_2 rfl rfl ?_
  refine z_iload_n (pc := 3) (i := 2) C 2 dX5_caughtBehind_3 rfl rfl ?_
  refine z_icmp_ge (pc := 4) C 26 dX5_caughtBehind_4 (by decide) (fun hc1 => ?_) (fun hc1 => ?_)
  · have hf := bb_t hf hc1
    refine z_lv [0, 1, 3] rfl ?_
    exact B_X5_caughtBehind_26 C hR hr h R  hf
  · have hf := bb_e hf hc1
    refine z_aload_n (pc := 7) (i := 0) C 0 dX5_caughtBehind_7 rfl rfl ?_
    refine z_iload_n (pc := 8) (i := 1) C 1 dX5_caughtBehind_8 rfl rfl ?_
    obtain ⟨q2, hq2, hf⟩ := bb_b_some hf
    refine z_callVi (pc := 9) (ci := 5) (q0 := 0) (As := [.int x1]) (rest := []) C (hR.le (by decide)) (c_X5_isFree h hq2) (bb_cut_self _ _) bv_X5_isFree bm_X5_67 rfl rfl rfl rfl (Nat.le_of_ble_eq_true rfl) dX5_caughtBehind_9 ?_
    refine z_if_eq (pc := 12) C 26 dX5_caughtBehind_12 (by decide) (fun hc3 => ?_) (fun hc3 => ?_)
    · have hf := bb_t hf hc3
      refine z_lv [0, 1, 3] rfl ?_
      exact B_X5_caughtBehind_26 C hR hr h R  hf
    · have hf := bb_e hf hc3
      refine z_aload_n (pc := 15) (i := 0) C 0 dX5_caughtBehind_15 rfl rfl ?_
      obtain ⟨q4, hq4, hf⟩ := bb_b_some hf
      refine z_callVi (pc := 16) (ci := 5) (q0 := 0) (As := []) (rest := []) (ws' := wX5 X.cs h q4.2) C (hR.le (by decide)) (c_X5_goesBy h hq4) (bb_cut_self _ _) bv_X5_goesBy bm_X5_155 rfl rfl rfl rfl (Nat.le_of_ble_eq_true rfl) dX5_caughtBehind_16 ?_
      refine z_pop (pc := 19) C dX5_caughtBehind_19 rfl ?_
      exact B_X5_caughtBehind_20 C hR hr h R hk2 hf
theorem B_X5_caughtBehind_2 {X : bb_X} (C : bb_C X RX5 cX5_caughtBehind 5) (hR : bb_r X 6) (hr : X.meth.sig.returnType = (some .int)) (h : Nat → Nat) {z : (Int32 × bb_O)} (R : bb_R X (some (.int z.1)) (wX5 X.cs h z.2)) : ∀ (n : Nat) (s0 : bb_O) (x1 : Int32) (x2 : Int32) (x3 : Int32), F_X5_caughtBehind_2  n s0 x1 x2 x3 = some z → bb_Z X 5 (wX5 X.cs h s0) 2 [(0, .ref (h 0)), (1, .int x1), (2, .int x2), (3, .int x3)] [] := by
  intro n
  induction n with
  | zero =>
    intro s0 x1 x2 x3 hf
    cases hf
  | succ n ih =>
    intro s0 x1 x2 x3 hf
    exact A_X5_caughtBehind_2 C hR hr h R  ih hf
noncomputable def F_X5_caughtBehind_0 (s0 : bb_O) (x1 : Int32) (x2 : Int32) : Option (Int32 × bb_O) := F_X5_caughtBehind_2 bb_N s0 x1 x2 ((0 : Int32))
set_option maxHeartbeats 4000000 in
set_option maxRecDepth 100000 in
theorem B_X5_caughtBehind_0 {X : bb_X} (C : bb_C X RX5 cX5_caughtBehind 5) (hR : bb_r X 6) (hr : X.meth.sig.returnType = (some .int)) (h : Nat → Nat) {z : (Int32 × bb_O)} (R : bb_R X (some (.int z.1)) (wX5 X.cs h z.2)) {s0 : bb_O} {x1 : Int32} {x2 : Int32} (hf : F_X5_caughtBehind_0 s0 x1 x2 = some z) : bb_Z X 5 (wX5 X.cs h s0) 0 [(0, .ref (h 0)), (1, .int x1), (2, .int x2)] [] := by
  refine z_iconst (pc := 0) C (0 : Int32) dX5_caughtBehind_0 (by decide) ?_
  refine z_istore_n (pc := 1) (i := 3) (lv' := [(3, .int ((0 : Int32))), (0, .ref (h 0)), (1, .int x1), (2, .int x2)]) C dX5_caughtBehind_1 rfl (by decide) rfl ?_
  refine z_lv [1, 2, 3, 0] rfl ?_
  exact B_X5_caughtBehind_2 C hR hr h R  bb_N _ _ _ _ hf
theorem c_X5_caughtBehind {l : Launch} {D : va_G} {cs : Nat → ClassId} (h : Nat → Nat) {s0 : bb_O} {x1 : Int32} {x2 : Int32} {z : (Int32 × bb_O)} (hf : F_X5_caughtBehind_0 s0 x1 x2 = some z) : bb_M l yX5_caughtBehind cX5_caughtBehind 5 (some .int) 6 D cs [.ref (h 0), .int x1, .int x2] (some (.int z.1)) (wX5 cs h s0) (wX5 cs h z.2) := bb_mg (by decide) rfl (Nat.le_of_ble_eq_true rfl) rfl (fun X hl hD hcs C hR hr R => by
  subst hl
  subst hD
  subst hcs
  exact B_X5_caughtBehind_0 C hR hr h R hf)
/-! X5_stand: writes, level 7 -/
noncomputable def F_X5_stand_18 (s0 : bb_O) : Option (Int32 × bb_O) := some ((-1 : Int32), s0)
set_option maxHeartbeats 4000000 in
set_option maxRecDepth 100000 in
theorem B_X5_stand_18 {X : bb_X} (C : bb_C X RX5 cX5_stand 7) (hR : bb_r X 7) (hr : X.meth.sig.returnType = (some .int)) (h : Nat → Nat) {z : (Int32 × bb_O)} (R : bb_R X (some (.int z.1)) (wX5 X.cs h z.2)) {s0 : bb_O} (hf : F_X5_stand_18 s0 = some z) : bb_Z X 7 (wX5 X.cs h s0) 18 [] [] := by
  refine z_iconst (pc := 18) C (-1 : Int32) dX5_stand_18 (by decide) ?_
  obtain rfl := Option.some.inj hf
  exact z_iret (pc := 19) C hr R dX5_stand_19
noncomputable def F_X5_stand_123 (s0 : bb_O) (y0 : Int32) : Option (Int32 × bb_O) := some (y0, s0)
set_option maxHeartbeats 4000000 in
set_option maxRecDepth 100000 in
theorem B_X5_stand_123 {X : bb_X} (C : bb_C X RX5 cX5_stand 7) (hR : bb_r X 7) (hr : X.meth.sig.returnType = (some .int)) (h : Nat → Nat) {z : (Int32 × bb_O)} (R : bb_R X (some (.int z.1)) (wX5 X.cs h z.2)) {s0 : bb_O} {y0 : Int32} (hf : F_X5_stand_123 s0 y0 = some z) : bb_Z X 7 (wX5 X.cs h s0) 123 [] [.int y0] := by
  obtain rfl := Option.some.inj hf
  exact z_iret (pc := 123) C hr R dX5_stand_123
noncomputable def F_X5_stand_105 (k44 : bb_O → Int32 → Int32 → Int32 → Int32 → Int32 → Option (Int32 × bb_O)) (s0 : bb_O) (x1 : Int32) (x2 : Int32) (x3 : Int32) (x5 : Int32) (y0 : Int32) : Option (Int32 × bb_O) := k44 s0 x1 x2 x3 y0 (x5 + 1)
set_option maxHeartbeats 4000000 in
set_option maxRecDepth 100000 in
theorem B_X5_stand_105 {X : bb_X} (C : bb_C X RX5 cX5_stand 7) (hR : bb_r X 7) (hr : X.meth.sig.returnType = (some .int)) (h : Nat → Nat) {z : (Int32 × bb_O)} (R : bb_R X (some (.int z.1)) (wX5 X.cs h z.2)) {k44 : bb_O → Int32 → Int32 → Int32 → Int32 → Int32 → Option (Int32 × bb_O)} (hk44 : ∀ (s0 : bb_O) (x1 : Int32) (x2 : Int32) (x3 : Int32) (x4 : Int32) (x5 : Int32), k44 s0 x1 x2 x3 x4 x5 = some z → bb_Z X 7 (wX5 X.cs h s0) 44 [(0, .ref (h 0)), (1, .int x1), (2, .int x2), (3, .int x3), (4, .int x4), (5, .int x5)] []) {s0 : bb_O} {x1 : Int32} {x2 : Int32} {x3 : Int32} {x5 : Int32} {y0 : Int32} (hf : F_X5_stand_105 k44 s0 x1 x2 x3 x5 y0 = some z) : bb_Z X 7 (wX5 X.cs h s0) 105 [(0, .ref (h 0)), (1, .int x1), (2, .int x2), (3, .int x3), (5, .int x5)] [.int y0] := by
  refine z_istore (pc := 105) (lv' := [(4, .int y0), (0, .ref (h 0)), (1, .int x1), (2, .int x2), (3, .int x3), (5, .int x5)]) C dX5_stand_105 (by decide) rfl ?_
  refine z_iinc (pc := 107) (lv' := [(5, .int (x5 + 1)), (4, .int y0), (0, .ref (h 0)), (1, .int x1), (2, .int x2), (3, .int x3)]) C (x5 + 1) 5 dX5_stand_107 rfl rfl (by decide) rfl ?_
  refine z_goto (pc := 110) C 44 dX5_stand_110 (by decide) ?_
  refine z_lv [2, 3, 4, 5, 1, 0] rfl ?_
  exact hk44 _ _ _ _ _ _ hf
noncomputable def F_X5_stand_90 (k44 : bb_O → Int32 → Int32 → Int32 → Int32 → Int32 → Option (Int32 × bb_O)) (s0 : bb_O) (x1 : Int32) (x2 : Int32) (x4 : Int32) (x5 : Int32) (x6 : Int32) (y0 : Int32) : Option (Int32 × bb_O) := if x6 ≤ x4 then (F_X5_stand_105 k44 s0 x1 x2 y0 x5 x4) else (F_X5_stand_105 k44 s0 x1 x2 y0 x5 x6)
set_option maxHeartbeats 4000000 in
set_option maxRecDepth 100000 in
theorem B_X5_stand_90 {X : bb_X} (C : bb_C X RX5 cX5_stand 7) (hR : bb_r X 7) (hr : X.meth.sig.returnType = (some .int)) (h : Nat → Nat) {z : (Int32 × bb_O)} (R : bb_R X (some (.int z.1)) (wX5 X.cs h z.2)) {k44 : bb_O → Int32 → Int32 → Int32 → Int32 → Int32 → Option (Int32 × bb_O)} (hk44 : ∀ (s0 : bb_O) (x1 : Int32) (x2 : Int32) (x3 : Int32) (x4 : Int32) (x5 : Int32), k44 s0 x1 x2 x3 x4 x5 = some z → bb_Z X 7 (wX5 X.cs h s0) 44 [(0, .ref (h 0)), (1, .int x1), (2, .int x2), (3, .int x3), (4, .int x4), (5, .int x5)] []) {s0 : bb_O} {x1 : Int32} {x2 : Int32} {x4 : Int32} {x5 : Int32} {x6 : Int32} {y0 : Int32} (hf : F_X5_stand_90 k44 s0 x1 x2 x4 x5 x6 y0 = some z) : bb_Z X 7 (wX5 X.cs h s0) 90 [(0, .ref (h 0)), (1, .int x1), (2, .int x2), (4, .int x4), (5, .int x5), (6, .int x6)] [.int y0] := by
  refine z_istore_n (pc := 90) (i := 3) (lv' := [(3, .int y0), (0, .ref (h 0)), (1, .int x1), (2, .int x2), (4, .int x4), (5, .int x5), (6, .int x6)]) C dX5_stand_90 rfl (by decide) rfl ?_
  refine z_iload (pc := 91) C 6 dX5_stand_91 rfl ?_
  refine z_iload (pc := 93) C 4 dX5_stand_93 rfl ?_
  refine z_icmp_le (pc := 95) C 103 dX5_stand_95 (by decide) (fun hc1 => ?_) (fun hc1 => ?_)
  · have hf := bb_t hf hc1
    refine z_iload (pc := 103) C 4 dX5_stand_103 rfl ?_
    refine z_lv [1, 2, 3, 0, 5] rfl ?_
    exact B_X5_stand_105 C hR hr h R hk44 hf
  · have hf := bb_e hf hc1
    refine z_iload (pc := 98) C 6 dX5_stand_98 rfl ?_
    refine z_goto (pc := 100) C 105 dX5_stand_100 (by decide) ?_
    refine z_lv [1, 2, 3, 0, 5] rfl ?_
    exact B_X5_stand_105 C hR hr h R hk44 hf
noncomputable def F_X5_stand_77 (k44 : bb_O → Int32 → Int32 → Int32 → Int32 → Int32 → Option (Int32 × bb_O)) (s0 : bb_O) (x1 : Int32) (x2 : Int32) (x3 : Int32) (x4 : Int32) (x5 : Int32) (x6 : Int32) : Option (Int32 × bb_O) := if x6 ≤ x4 then (F_X5_stand_90 k44 s0 x1 x2 x4 x5 x6 x3) else (F_X5_stand_90 k44 s0 x1 x2 x4 x5 x6 x5)
set_option maxHeartbeats 4000000 in
set_option maxRecDepth 100000 in
theorem B_X5_stand_77 {X : bb_X} (C : bb_C X RX5 cX5_stand 7) (hR : bb_r X 7) (hr : X.meth.sig.returnType = (some .int)) (h : Nat → Nat) {z : (Int32 × bb_O)} (R : bb_R X (some (.int z.1)) (wX5 X.cs h z.2)) {k44 : bb_O → Int32 → Int32 → Int32 → Int32 → Int32 → Option (Int32 × bb_O)} (hk44 : ∀ (s0 : bb_O) (x1 : Int32) (x2 : Int32) (x3 : Int32) (x4 : Int32) (x5 : Int32), k44 s0 x1 x2 x3 x4 x5 = some z → bb_Z X 7 (wX5 X.cs h s0) 44 [(0, .ref (h 0)), (1, .int x1), (2, .int x2), (3, .int x3), (4, .int x4), (5, .int x5)] []) {s0 : bb_O} {x1 : Int32} {x2 : Int32} {x3 : Int32} {x4 : Int32} {x5 : Int32} {x6 : Int32} (hf : F_X5_stand_77 k44 s0 x1 x2 x3 x4 x5 x6 = some z) : bb_Z X 7 (wX5 X.cs h s0) 77 [(0, .ref (h 0)), (1, .int x1), (2, .int x2), (3, .int x3), (4, .int x4), (5, .int x5), (6, .int x6)] [] := by
  refine z_iload (pc := 77) C 6 dX5_stand_77 rfl ?_
  refine z_iload (pc := 79) C 4 dX5_stand_79 rfl ?_
  refine z_icmp_le (pc := 81) C 89 dX5_stand_81 (by decide) (fun hc1 => ?_) (fun hc1 => ?_)
  · have hf := bb_t hf hc1
    refine z_iload_n (pc := 89) (i := 3) C 3 dX5_stand_89 rfl rfl ?_
    refine z_lv [0, 1, 2, 4, 5, 6] rfl ?_
    exact B_X5_stand_90 C hR hr h R hk44 hf
  · have hf := bb_e hf hc1
    refine z_iload (pc := 84) C 5 dX5_stand_84 rfl ?_
    refine z_goto (pc := 86) C 90 dX5_stand_86 (by decide) ?_
    refine z_lv [0, 1, 2, 4, 5, 6] rfl ?_
    exact B_X5_stand_90 C hR hr h R hk44 hf
noncomputable def F_X5_stand_68 (k44 : bb_O → Int32 → Int32 → Int32 → Int32 → Int32 → Option (Int32 × bb_O)) (s0 : bb_O) (x1 : Int32) (x2 : Int32) (x3 : Int32) (x4 : Int32) (x5 : Int32) : Option (Int32 × bb_O) := (F_X5_caughtBehind_0 s0 x1 ((60 : Int32))).bind (fun q1 => F_X5_stand_77 k44 q1.2 x1 x2 x3 x4 x5 q1.1)
set_option maxHeartbeats 4000000 in
set_option maxRecDepth 100000 in
theorem B_X5_stand_68 {X : bb_X} (C : bb_C X RX5 cX5_stand 7) (hR : bb_r X 7) (hr : X.meth.sig.returnType = (some .int)) (h : Nat → Nat) {z : (Int32 × bb_O)} (R : bb_R X (some (.int z.1)) (wX5 X.cs h z.2)) {k44 : bb_O → Int32 → Int32 → Int32 → Int32 → Int32 → Option (Int32 × bb_O)} (hk44 : ∀ (s0 : bb_O) (x1 : Int32) (x2 : Int32) (x3 : Int32) (x4 : Int32) (x5 : Int32), k44 s0 x1 x2 x3 x4 x5 = some z → bb_Z X 7 (wX5 X.cs h s0) 44 [(0, .ref (h 0)), (1, .int x1), (2, .int x2), (3, .int x3), (4, .int x4), (5, .int x5)] []) {s0 : bb_O} {x1 : Int32} {x2 : Int32} {x3 : Int32} {x4 : Int32} {x5 : Int32} (hf : F_X5_stand_68 k44 s0 x1 x2 x3 x4 x5 = some z) : bb_Z X 7 (wX5 X.cs h s0) 68 [(0, .ref (h 0)), (1, .int x1), (2, .int x2), (3, .int x3), (4, .int x4), (5, .int x5)] [] := by
  refine z_aload_n (pc := 68) (i := 0) C 0 dX5_stand_68 rfl rfl ?_
  refine z_iload_n (pc := 69) (i := 1) C 1 dX5_stand_69 rfl rfl ?_
  refine z_bipush (pc := 70) C (60 : Int32) dX5_stand_70 (by decide) ?_
  obtain ⟨q1, hq1, hf⟩ := bb_b_some hf
  refine z_callVi (pc := 72) (ci := 5) (q0 := 0) (As := [.int x1, .int ((60 : Int32))]) (rest := []) (ws' := wX5 X.cs h q1.2) C (hR.le (by decide)) (c_X5_caughtBehind h hq1) (bb_cut_self _ _) bv_X5_caughtBehind bm_X5_182 rfl rfl rfl rfl (Nat.le_of_ble_eq_true rfl) dX5_stand_72 ?_
  refine z_istore (pc := 75) (lv' := [(6, .int q1.1), (0, .ref (h 0)), (1, .int x1), (2, .int x2), (3, .int x3), (4, .int x4), (5, .int x5)]) C dX5_stand_75 (by decide) rfl ?_
  refine z_lv [1, 2, 3, 4, 5, 6, 0] rfl ?_
  exact B_X5_stand_77 C hR hr h R hk44 hf
noncomputable def G_X5_stand_44 (k44 : bb_O → Int32 → Int32 → Int32 → Int32 → Int32 → Option (Int32 × bb_O)) (s0 : bb_O) (x1 : Int32) (x2 : Int32) (x3 : Int32) (x4 : Int32) (x5 : Int32) : Option (Int32 × bb_O) := (F_X5_cells_0 s0).bind (fun q1 => if q1 ≤ x5 then (if x2 = 0 then (F_X5_stand_123 s0 x3) else (F_X5_stand_123 s0 x4)) else (bb_g (vp_in ((((9 : Int32)) + (((5 : Int32)) * x1)) + ((1 : Int32))) 39) (F_X5_stand_68 k44 (bb_sA s0 0 (upd (s0.2.1 0) ((((9 : Int32)) + (((5 : Int32)) * x1)) + ((1 : Int32))).toNatClampNeg x5)) x1 x2 x3 x4 x5)))
noncomputable def F_X5_stand_44  : Nat → bb_O → Int32 → Int32 → Int32 → Int32 → Int32 → Option (Int32 × bb_O)
  | 0, _, _, _, _, _, _ => none
  | n + 1, s0, x1, x2, x3, x4, x5 => G_X5_stand_44  (F_X5_stand_44  n) s0 x1 x2 x3 x4 x5
set_option maxHeartbeats 4000000 in
set_option maxRecDepth 100000 in
theorem A_X5_stand_44 {X : bb_X} (C : bb_C X RX5 cX5_stand 7) (hR : bb_r X 7) (hr : X.meth.sig.returnType = (some .int)) (h : Nat → Nat) {z : (Int32 × bb_O)} (R : bb_R X (some (.int z.1)) (wX5 X.cs h z.2)) {k44 : bb_O → Int32 → Int32 → Int32 → Int32 → Int32 → Option (Int32 × bb_O)} (hk44 : ∀ (s0 : bb_O) (x1 : Int32) (x2 : Int32) (x3 : Int32) (x4 : Int32) (x5 : Int32), k44 s0 x1 x2 x3 x4 x5 = some z → bb_Z X 7 (wX5 X.cs h s0) 44 [(0, .ref (h 0)), (1, .int x1), (2, .int x2), (3, .int x3), (4, .int x4), (5, .int x5)] []) {s0 : bb_O} {x1 : Int32} {x2 : Int32} {x3 : Int32} {x4 : Int32} {x5 : Int32} (hf : G_X5_stand_44 k44 s0 x1 x2 x3 x4 x5 = some z) : bb_Z X 7 (wX5 X.cs h s0) 44 [(0, .ref (h 0)), (1, .int x1), (2, .int x2), (3, .int x3), (4, .int x4), (5, .int x5)] [] := by
  refine z_iload (pc := 44) C 5 dX5_stand_44 rfl ?_
  refine z_aload_n (pc := 46) (i := 0) C 0 dX5_stand_46 rfl rfl ?_
  obtain ⟨q1, hq1, hf⟩ := bb_b_some hf
  refine z_callVi (pc := 47) (ci := 5) (q0 := 0) (As := []) (rest := [.int x5]) C (hR.le (by decide)) (c_X5_cells h hq1) (bb_cut_self _ _) bv_X5_cells bm_X5_93 rfl rfl rfl rfl (Nat.le_of_ble_eq_true rfl) dX5_stand_47 ?_
  refine z_icmp_ge (pc := 50) C 113 dX5_stand_50 (by decide) (fun hc2 => ?_) (fun hc2 => ?_)
  · have hf := bb_t hf hc2
    refine z_iload_n (pc := 113) (i := 2) C 2 dX5_stand_113 rfl rfl ?_
    refine z_if_ne (pc := 114) C 121 dX5_stand_114 (by decide) (fun hc3 => ?_) (fun hc3 => ?_)
    · have hf := bb_e hf hc3
      refine z_iload (pc := 121) C 4 dX5_stand_121 rfl ?_
      refine z_lv [] rfl ?_
      exact B_X5_stand_123 C hR hr h R  hf
    · have hf := bb_t hf hc3
      refine z_iload_n (pc := 117) (i := 3) C 3 dX5_stand_117 rfl rfl ?_
      refine z_goto (pc := 118) C 123 dX5_stand_118 (by decide) ?_
      refine z_lv [] rfl ?_
      exact B_X5_stand_123 C hR hr h R  hf
  · have hf := bb_e hf hc2
    refine z_aload_n (pc := 53) (i := 0) C 0 dX5_stand_53 rfl rfl ?_
    refine z_get (pc := 54) (ci := 5) C (.ref (h 1)) bi_X5 rfl 0 0 (by decide) rfl bf_X5_7 rfl rfl dX5_stand_54 ?_
    refine z_bipush (pc := 57) C (9 : Int32) dX5_stand_57 (by decide) ?_
    refine z_iconst (pc := 59) C (5 : Int32) dX5_stand_59 (by decide) ?_
    refine z_iload_n (pc := 60) (i := 1) C 1 dX5_stand_60 rfl rfl ?_
    refine z_imul (pc := 61) C dX5_stand_61 ?_
    refine z_iadd (pc := 62) C dX5_stand_62 ?_
    refine z_iconst (pc := 63) C (1 : Int32) dX5_stand_63 (by decide) ?_
    refine z_iadd (pc := 64) C dX5_stand_64 ?_
    refine z_iload (pc := 65) C 5 dX5_stand_65 rfl ?_
    obtain ⟨hv4, hf⟩ := bb_g_some hf
    refine z_iast (pc := 67) (ws' := wX5 X.cs h (bb_sA s0 0 (upd (s0.2.1 0) ((((9 : Int32)) + (((5 : Int32)) * x1)) + ((1 : Int32))).toNatClampNeg x5))) C 1 0 (((((9 : Int32)) + (((5 : Int32)) * x1)) + ((1 : Int32))).toNatClampNeg) rfl rfl hv4 rfl rfl dX5_stand_67 ?_
    exact B_X5_stand_68 C hR hr h R hk44 hf
theorem B_X5_stand_44 {X : bb_X} (C : bb_C X RX5 cX5_stand 7) (hR : bb_r X 7) (hr : X.meth.sig.returnType = (some .int)) (h : Nat → Nat) {z : (Int32 × bb_O)} (R : bb_R X (some (.int z.1)) (wX5 X.cs h z.2)) : ∀ (n : Nat) (s0 : bb_O) (x1 : Int32) (x2 : Int32) (x3 : Int32) (x4 : Int32) (x5 : Int32), F_X5_stand_44  n s0 x1 x2 x3 x4 x5 = some z → bb_Z X 7 (wX5 X.cs h s0) 44 [(0, .ref (h 0)), (1, .int x1), (2, .int x2), (3, .int x3), (4, .int x4), (5, .int x5)] [] := by
  intro n
  induction n with
  | zero =>
    intro s0 x1 x2 x3 x4 x5 hf
    cases hf
  | succ n ih =>
    intro s0 x1 x2 x3 x4 x5 hf
    exact A_X5_stand_44 C hR hr h R  ih hf
noncomputable def F_X5_stand_0 (s0 : bb_O) (x1 : Int32) (x2 : Int32) : Option (Int32 × bb_O) := (F_X5_isPerson_0 s0 x1).bind (fun q1 => if q1 = 0 then (F_X5_stand_18 s0) else ((F_X5_in_0 (x2.toInt64) ((0 : Int64)) ((1 : Int64))).bind (fun q3 => if q3 = 0 then (F_X5_stand_18 s0) else ((F_X5_isFree_0 s0 x1).bind (fun q5 => if q5 = 0 then (some ((-2 : Int32), s0)) else ((F_X5_asides_0 s0).bind (fun q7 => F_X5_stand_44 bb_N q7 x1 x2 ((-4 : Int32)) ((0 : Int32)) ((0 : Int32)))))))))
set_option maxHeartbeats 4000000 in
set_option maxRecDepth 100000 in
theorem B_X5_stand_0 {X : bb_X} (C : bb_C X RX5 cX5_stand 7) (hR : bb_r X 7) (hr : X.meth.sig.returnType = (some .int)) (h : Nat → Nat) {z : (Int32 × bb_O)} (R : bb_R X (some (.int z.1)) (wX5 X.cs h z.2)) {s0 : bb_O} {x1 : Int32} {x2 : Int32} (hf : F_X5_stand_0 s0 x1 x2 = some z) : bb_Z X 7 (wX5 X.cs h s0) 0 [(0, .ref (h 0)), (1, .int x1), (2, .int x2)] [] := by
  refine z_aload_n (pc := 0) (i := 0) C 0 dX5_stand_0 rfl rfl ?_
  refine z_iload_n (pc := 1) (i := 1) C 1 dX5_stand_1 rfl rfl ?_
  obtain ⟨q1, hq1, hf⟩ := bb_b_some hf
  refine z_callVi (pc := 2) (ci := 5) (q0 := 0) (As := [.int x1]) (rest := []) C (hR.le (by decide)) (c_X5_isPerson h hq1) (bb_cut_self _ _) bv_X5_isPerson bm_X5_107 rfl rfl rfl rfl (Nat.le_of_ble_eq_true rfl) dX5_stand_2 ?_
  refine z_if_eq (pc := 5) C 18 dX5_stand_5 (by decide) (fun hc2 => ?_) (fun hc2 => ?_)
  · have hf := bb_t hf hc2
    refine z_lv [] rfl ?_
    exact B_X5_stand_18 C hR hr h R  hf
  · have hf := bb_e hf hc2
    refine z_iload_n (pc := 8) (i := 2) C 2 dX5_stand_8 rfl rfl ?_
    refine z_i2l (pc := 9) C dX5_stand_9 ?_
    refine z_lconst (pc := 10) C (0 : Int64) dX5_stand_10 (by decide) ?_
    refine z_lconst (pc := 11) C (1 : Int64) dX5_stand_11 (by decide) ?_
    obtain ⟨q3, hq3, hf⟩ := bb_b_some hf
    refine z_callSi (pc := 12) (As := [.long (x2.toInt64), .long ((0 : Int64)), .long ((1 : Int64))]) (rest := []) C (hR.le (by decide)) (c_X5_in hq3) (bb_cut_none _) bv_X5_in bm_X5_49 rfl rfl (Nat.le_of_ble_eq_true rfl) dX5_stand_12 ?_
    refine z_if_ne (pc := 15) C 20 dX5_stand_15 (by decide) (fun hc4 => ?_) (fun hc4 => ?_)
    · have hf := bb_e hf hc4
      refine z_aload_n (pc := 20) (i := 0) C 0 dX5_stand_20 rfl rfl ?_
      refine z_iload_n (pc := 21) (i := 1) C 1 dX5_stand_21 rfl rfl ?_
      obtain ⟨q5, hq5, hf⟩ := bb_b_some hf
      refine z_callVi (pc := 22) (ci := 5) (q0 := 0) (As := [.int x1]) (rest := []) C (hR.le (by decide)) (c_X5_isFree h hq5) (bb_cut_self _ _) bv_X5_isFree bm_X5_67 rfl rfl rfl rfl (Nat.le_of_ble_eq_true rfl) dX5_stand_22 ?_
      refine z_if_ne (pc := 25) C 31 dX5_stand_25 (by decide) (fun hc6 => ?_) (fun hc6 => ?_)
      · have hf := bb_e hf hc6
        refine z_bipush (pc := 31) C (-4 : Int32) dX5_stand_31 (by decide) ?_
        refine z_istore_n (pc := 33) (i := 3) (lv' := [(3, .int ((-4 : Int32))), (0, .ref (h 0)), (1, .int x1), (2, .int x2)]) C dX5_stand_33 rfl (by decide) rfl ?_
        refine z_iconst (pc := 34) C (0 : Int32) dX5_stand_34 (by decide) ?_
        refine z_istore (pc := 35) (lv' := [(4, .int ((0 : Int32))), (3, .int ((-4 : Int32))), (0, .ref (h 0)), (1, .int x1), (2, .int x2)]) C dX5_stand_35 (by decide) rfl ?_
        refine z_aload_n (pc := 37) (i := 0) C 2 dX5_stand_37 rfl rfl ?_
        obtain ⟨q7, hq7, hf⟩ := bb_b_some hf
        refine z_callVv (pc := 38) (ci := 5) (q0 := 0) (As := []) (rest := []) (ws' := wX5 X.cs h q7) C (hR.le (by decide)) (c_X5_asides h hq7) (bb_cut_self _ _) bv_X5_asides bm_X5_173 rfl rfl rfl rfl (Nat.le_of_ble_eq_true rfl) dX5_stand_38 ?_
        refine z_iconst (pc := 41) C (0 : Int32) dX5_stand_41 (by decide) ?_
        refine z_istore (pc := 42) (lv' := [(5, .int ((0 : Int32))), (4, .int ((0 : Int32))), (3, .int ((-4 : Int32))), (0, .ref (h 0)), (1, .int x1), (2, .int x2)]) C dX5_stand_42 (by decide) rfl ?_
        refine z_lv [3, 4, 5, 2, 1, 0] rfl ?_
        exact B_X5_stand_44 C hR hr h R  bb_N _ _ _ _ _ _ hf
      · have hf := bb_t hf hc6
        refine z_bipush (pc := 28) C (-2 : Int32) dX5_stand_28 (by decide) ?_
        obtain rfl := Option.some.inj hf
        exact z_iret (pc := 30) C hr R dX5_stand_30
    · have hf := bb_t hf hc4
      refine z_lv [] rfl ?_
      exact B_X5_stand_18 C hR hr h R  hf
theorem c_X5_stand {l : Launch} {D : va_G} {cs : Nat → ClassId} (h : Nat → Nat) {s0 : bb_O} {x1 : Int32} {x2 : Int32} {z : (Int32 × bb_O)} (hf : F_X5_stand_0 s0 x1 x2 = some z) : bb_M l yX5_stand cX5_stand 7 (some .int) 7 D cs [.ref (h 0), .int x1, .int x2] (some (.int z.1)) (wX5 cs h s0) (wX5 cs h z.2) := bb_mg (by decide) rfl (Nat.le_of_ble_eq_true rfl) rfl (fun X hl hD hcs C hR hr R => by
  subst hl
  subst hD
  subst hcs
  exact B_X5_stand_0 C hR hr h R hf)
/-! X5_hush: writes, level 7 -/
noncomputable def F_X5_hush_20 (s0 : bb_O) : Option (Int32 × bb_O) := some ((-1 : Int32), s0)
set_option maxHeartbeats 4000000 in
set_option maxRecDepth 100000 in
theorem B_X5_hush_20 {X : bb_X} (C : bb_C X RX5 cX5_hush 4) (hR : bb_r X 7) (hr : X.meth.sig.returnType = (some .int)) (h : Nat → Nat) {z : (Int32 × bb_O)} (R : bb_R X (some (.int z.1)) (wX5 X.cs h z.2)) {s0 : bb_O} (hf : F_X5_hush_20 s0 = some z) : bb_Z X 4 (wX5 X.cs h s0) 20 [] [] := by
  refine z_iconst (pc := 20) C (-1 : Int32) dX5_hush_20 (by decide) ?_
  obtain rfl := Option.some.inj hf
  exact z_iret (pc := 21) C hr R dX5_hush_21
noncomputable def F_X5_hush_79 (k39 : bb_O → Int32 → Int32 → Int32 → Option (Int32 × bb_O)) (s0 : bb_O) (x1 : Int32) (x2 : Int32) (x3 : Int32) : Option (Int32 × bb_O) := k39 s0 x1 x2 (x3 + 1)
set_option maxHeartbeats 4000000 in
set_option maxRecDepth 100000 in
theorem B_X5_hush_79 {X : bb_X} (C : bb_C X RX5 cX5_hush 4) (hR : bb_r X 7) (hr : X.meth.sig.returnType = (some .int)) (h : Nat → Nat) {z : (Int32 × bb_O)} (R : bb_R X (some (.int z.1)) (wX5 X.cs h z.2)) {k39 : bb_O → Int32 → Int32 → Int32 → Option (Int32 × bb_O)} (hk39 : ∀ (s0 : bb_O) (x1 : Int32) (x2 : Int32) (x3 : Int32), k39 s0 x1 x2 x3 = some z → bb_Z X 4 (wX5 X.cs h s0) 39 [(0, .ref (h 0)), (1, .int x1), (2, .int x2), (3, .int x3)] []) {s0 : bb_O} {x1 : Int32} {x2 : Int32} {x3 : Int32} (hf : F_X5_hush_79 k39 s0 x1 x2 x3 = some z) : bb_Z X 4 (wX5 X.cs h s0) 79 [(0, .ref (h 0)), (1, .int x1), (2, .int x2), (3, .int x3)] [] := by
  refine z_iinc (pc := 79) (lv' := [(3, .int (x3 + 1)), (0, .ref (h 0)), (1, .int x1), (2, .int x2)]) C (x3 + 1) 3 dX5_hush_79 rfl rfl (by decide) rfl ?_
  refine z_goto (pc := 82) C 39 dX5_hush_82 (by decide) ?_
  refine z_lv [1, 2, 3, 0] rfl ?_
  exact hk39 _ _ _ _ hf
noncomputable def F_X5_hush_77 (s0 : bb_O) (x3 : Int32) : Option (Int32 × bb_O) := some (x3, s0)
set_option maxHeartbeats 4000000 in
set_option maxRecDepth 100000 in
theorem B_X5_hush_77 {X : bb_X} (C : bb_C X RX5 cX5_hush 4) (hR : bb_r X 7) (hr : X.meth.sig.returnType = (some .int)) (h : Nat → Nat) {z : (Int32 × bb_O)} (R : bb_R X (some (.int z.1)) (wX5 X.cs h z.2)) {s0 : bb_O} {x3 : Int32} (hf : F_X5_hush_77 s0 x3 = some z) : bb_Z X 4 (wX5 X.cs h s0) 77 [(3, .int x3)] [] := by
  refine z_iload_n (pc := 77) (i := 3) C 0 dX5_hush_77 rfl rfl ?_
  obtain rfl := Option.some.inj hf
  exact z_iret (pc := 78) C hr R dX5_hush_78
noncomputable def F_X5_hush_66 (k39 : bb_O → Int32 → Int32 → Int32 → Option (Int32 × bb_O)) (s0 : bb_O) (x1 : Int32) (x2 : Int32) (x3 : Int32) : Option (Int32 × bb_O) := (F_X5_caughtBehind_0 s0 x1 x2).bind (fun q1 => if q1.1 = ((61 : Int32)) then (F_X5_hush_77 q1.2 x3) else (F_X5_hush_79 k39 q1.2 x1 x2 x3))
set_option maxHeartbeats 4000000 in
set_option maxRecDepth 100000 in
theorem B_X5_hush_66 {X : bb_X} (C : bb_C X RX5 cX5_hush 4) (hR : bb_r X 7) (hr : X.meth.sig.returnType = (some .int)) (h : Nat → Nat) {z : (Int32 × bb_O)} (R : bb_R X (some (.int z.1)) (wX5 X.cs h z.2)) {k39 : bb_O → Int32 → Int32 → Int32 → Option (Int32 × bb_O)} (hk39 : ∀ (s0 : bb_O) (x1 : Int32) (x2 : Int32) (x3 : Int32), k39 s0 x1 x2 x3 = some z → bb_Z X 4 (wX5 X.cs h s0) 39 [(0, .ref (h 0)), (1, .int x1), (2, .int x2), (3, .int x3)] []) {s0 : bb_O} {x1 : Int32} {x2 : Int32} {x3 : Int32} (hf : F_X5_hush_66 k39 s0 x1 x2 x3 = some z) : bb_Z X 4 (wX5 X.cs h s0) 66 [(0, .ref (h 0)), (1, .int x1), (2, .int x2), (3, .int x3)] [] := by
  refine z_aload_n (pc := 66) (i := 0) C 0 dX5_hush_66 rfl rfl ?_
  refine z_iload_n (pc := 67) (i := 1) C 1 dX5_hush_67 rfl rfl ?_
  refine z_iload_n (pc := 68) (i := 2) C 2 dX5_hush_68 rfl rfl ?_
  obtain ⟨q1, hq1, hf⟩ := bb_b_some hf
  refine z_callVi (pc := 69) (ci := 5) (q0 := 0) (As := [.int x1, .int x2]) (rest := []) (ws' := wX5 X.cs h q1.2) C (hR.le (by decide)) (c_X5_caughtBehind h hq1) (bb_cut_self _ _) bv_X5_caughtBehind bm_X5_182 rfl rfl rfl rfl (Nat.le_of_ble_eq_true rfl) dX5_hush_69 ?_
  refine z_bipush (pc := 72) C (61 : Int32) dX5_hush_72 (by decide) ?_
  refine z_icmp_ne (pc := 74) C 79 dX5_hush_74 (by decide) (fun hc2 => ?_) (fun hc2 => ?_)
  · have hf := bb_e hf hc2
    exact B_X5_hush_79 C hR hr h R hk39 hf
  · have hf := bb_t hf hc2
    refine z_lv [3] rfl ?_
    exact B_X5_hush_77 C hR hr h R  hf
noncomputable def G_X5_hush_39 (k39 : bb_O → Int32 → Int32 → Int32 → Option (Int32 × bb_O)) (s0 : bb_O) (x1 : Int32) (x2 : Int32) (x3 : Int32) : Option (Int32 × bb_O) := (F_X5_told_0 s0 x1 ((2 : Int32))).bind (fun q1 => if q1 < x3 then (some ((-4 : Int32), s0)) else (bb_g (vp_in ((((9 : Int32)) + (((5 : Int32)) * x1)) + ((2 : Int32))) 39) (bb_g (vp_in ((((9 : Int32)) + (((5 : Int32)) * x1)) + ((2 : Int32))) 39) (F_X5_hush_66 k39 (bb_sA s0 0 (upd (s0.2.1 0) ((((9 : Int32)) + (((5 : Int32)) * x1)) + ((2 : Int32))).toNatClampNeg ((s0.2.1 0 ((((9 : Int32)) + (((5 : Int32)) * x1)) + ((2 : Int32))).toNatClampNeg) - x3))) x1 x2 x3))))
noncomputable def F_X5_hush_39  : Nat → bb_O → Int32 → Int32 → Int32 → Option (Int32 × bb_O)
  | 0, _, _, _, _ => none
  | n + 1, s0, x1, x2, x3 => G_X5_hush_39  (F_X5_hush_39  n) s0 x1 x2 x3
set_option maxHeartbeats 4000000 in
set_option maxRecDepth 100000 in
theorem A_X5_hush_39 {X : bb_X} (C : bb_C X RX5 cX5_hush 4) (hR : bb_r X 7) (hr : X.meth.sig.returnType = (some .int)) (h : Nat → Nat) {z : (Int32 × bb_O)} (R : bb_R X (some (.int z.1)) (wX5 X.cs h z.2)) {k39 : bb_O → Int32 → Int32 → Int32 → Option (Int32 × bb_O)} (hk39 : ∀ (s0 : bb_O) (x1 : Int32) (x2 : Int32) (x3 : Int32), k39 s0 x1 x2 x3 = some z → bb_Z X 4 (wX5 X.cs h s0) 39 [(0, .ref (h 0)), (1, .int x1), (2, .int x2), (3, .int x3)] []) {s0 : bb_O} {x1 : Int32} {x2 : Int32} {x3 : Int32} (hf : G_X5_hush_39 k39 s0 x1 x2 x3 = some z) : bb_Z X 4 (wX5 X.cs h s0) 39 [(0, .ref (h 0)), (1, .int x1), (2, .int x2), (3, .int x3)] [] := by
  refine z_iload_n (pc := 39) (i := 3) C 3 dX5_hush_39 rfl rfl ?_
  refine z_aload_n (pc := 40) (i := 0) C 0 dX5_hush_40 rfl rfl ?_
  refine z_iload_n (pc := 41) (i := 1) C 1 dX5_hush_41 rfl rfl ?_
  refine z_iconst (pc := 42) C (2 : Int32) dX5_hush_42 (by decide) ?_
  obtain ⟨q1, hq1, hf⟩ := bb_b_some hf
  refine z_callVi (pc := 43) (ci := 5) (q0 := 0) (As := [.int x1, .int ((2 : Int32))]) (rest := [.int x3]) C (hR.le (by decide)) (c_X5_told h hq1) (bb_cut_self _ _) bv_X5_told bm_X5_53 rfl rfl rfl rfl (Nat.le_of_ble_eq_true rfl) dX5_hush_43 ?_
  refine z_icmp_gt (pc := 46) C 85 dX5_hush_46 (by decide) (fun hc2 => ?_) (fun hc2 => ?_)
  · have hf := bb_t hf hc2
    refine z_bipush (pc := 85) C (-4 : Int32) dX5_hush_85 (by decide) ?_
    obtain rfl := Option.some.inj hf
    exact z_iret (pc := 87) C hr R dX5_hush_87
  · have hf := bb_e hf hc2
    refine z_aload_n (pc := 49) (i := 0) C 0 dX5_hush_49 rfl rfl ?_
    refine z_get (pc := 50) (ci := 5) C (.ref (h 1)) bi_X5 rfl 0 0 (by decide) rfl bf_X5_7 rfl rfl dX5_hush_50 ?_
    refine z_bipush (pc := 53) C (9 : Int32) dX5_hush_53 (by decide) ?_
    refine z_iconst (pc := 55) C (5 : Int32) dX5_hush_55 (by decide) ?_
    refine z_iload_n (pc := 56) (i := 1) C 1 dX5_hush_56 rfl rfl ?_
    refine z_imul (pc := 57) C dX5_hush_57 ?_
    refine z_iadd (pc := 58) C dX5_hush_58 ?_
    refine z_iconst (pc := 59) C (2 : Int32) dX5_hush_59 (by decide) ?_
    refine z_iadd (pc := 60) C dX5_hush_60 ?_
    refine z_dup2 (pc := 61) C dX5_hush_61 rfl rfl ?_
    obtain ⟨hv3, hf⟩ := bb_g_some hf
    refine z_iald (pc := 62) C 1 0 (((((9 : Int32)) + (((5 : Int32)) * x1)) + ((2 : Int32))).toNatClampNeg) rfl rfl hv3 rfl dX5_hush_62 ?_
    refine z_iload_n (pc := 63) (i := 3) C 3 dX5_hush_63 rfl rfl ?_
    refine z_isub (pc := 64) C dX5_hush_64 ?_
    obtain ⟨hv4, hf⟩ := bb_g_some hf
    refine z_iast (pc := 65) (ws' := wX5 X.cs h (bb_sA s0 0 (upd (s0.2.1 0) ((((9 : Int32)) + (((5 : Int32)) * x1)) + ((2 : Int32))).toNatClampNeg ((s0.2.1 0 ((((9 : Int32)) + (((5 : Int32)) * x1)) + ((2 : Int32))).toNatClampNeg) - x3)))) C 1 0 (((((9 : Int32)) + (((5 : Int32)) * x1)) + ((2 : Int32))).toNatClampNeg) rfl rfl hv4 rfl rfl dX5_hush_65 ?_
    exact B_X5_hush_66 C hR hr h R hk39 hf
theorem B_X5_hush_39 {X : bb_X} (C : bb_C X RX5 cX5_hush 4) (hR : bb_r X 7) (hr : X.meth.sig.returnType = (some .int)) (h : Nat → Nat) {z : (Int32 × bb_O)} (R : bb_R X (some (.int z.1)) (wX5 X.cs h z.2)) : ∀ (n : Nat) (s0 : bb_O) (x1 : Int32) (x2 : Int32) (x3 : Int32), F_X5_hush_39  n s0 x1 x2 x3 = some z → bb_Z X 4 (wX5 X.cs h s0) 39 [(0, .ref (h 0)), (1, .int x1), (2, .int x2), (3, .int x3)] [] := by
  intro n
  induction n with
  | zero =>
    intro s0 x1 x2 x3 hf
    cases hf
  | succ n ih =>
    intro s0 x1 x2 x3 hf
    exact A_X5_hush_39 C hR hr h R  ih hf
noncomputable def F_X5_hush_0 (s0 : bb_O) (x1 : Int32) (x2 : Int32) : Option (Int32 × bb_O) := (F_X5_isPerson_0 s0 x1).bind (fun q1 => if q1 = 0 then (F_X5_hush_20 s0) else ((F_X5_in_0 (x2.toInt64) ((1 : Int64)) ((60 : Int64))).bind (fun q3 => if q3 = 0 then (F_X5_hush_20 s0) else ((F_X5_isFree_0 s0 x1).bind (fun q5 => if q5 = 0 then (some ((-2 : Int32), s0)) else ((F_X5_asides_0 s0).bind (fun q7 => F_X5_hush_39 bb_N q7 x1 x2 ((0 : Int32)))))))))
set_option maxHeartbeats 4000000 in
set_option maxRecDepth 100000 in
theorem B_X5_hush_0 {X : bb_X} (C : bb_C X RX5 cX5_hush 4) (hR : bb_r X 7) (hr : X.meth.sig.returnType = (some .int)) (h : Nat → Nat) {z : (Int32 × bb_O)} (R : bb_R X (some (.int z.1)) (wX5 X.cs h z.2)) {s0 : bb_O} {x1 : Int32} {x2 : Int32} (hf : F_X5_hush_0 s0 x1 x2 = some z) : bb_Z X 4 (wX5 X.cs h s0) 0 [(0, .ref (h 0)), (1, .int x1), (2, .int x2)] [] := by
  refine z_aload_n (pc := 0) (i := 0) C 0 dX5_hush_0 rfl rfl ?_
  refine z_iload_n (pc := 1) (i := 1) C 1 dX5_hush_1 rfl rfl ?_
  obtain ⟨q1, hq1, hf⟩ := bb_b_some hf
  refine z_callVi (pc := 2) (ci := 5) (q0 := 0) (As := [.int x1]) (rest := []) C (hR.le (by decide)) (c_X5_isPerson h hq1) (bb_cut_self _ _) bv_X5_isPerson bm_X5_107 rfl rfl rfl rfl (Nat.le_of_ble_eq_true rfl) dX5_hush_2 ?_
  refine z_if_eq (pc := 5) C 20 dX5_hush_5 (by decide) (fun hc2 => ?_) (fun hc2 => ?_)
  · have hf := bb_t hf hc2
    refine z_lv [] rfl ?_
    exact B_X5_hush_20 C hR hr h R  hf
  · have hf := bb_e hf hc2
    refine z_iload_n (pc := 8) (i := 2) C 2 dX5_hush_8 rfl rfl ?_
    refine z_i2l (pc := 9) C dX5_hush_9 ?_
    refine z_lconst (pc := 10) C (1 : Int64) dX5_hush_10 (by decide) ?_
    refine z_ldc2_w (pc := 11) C bk_X5_171 dX5_hush_11 ?_
    obtain ⟨q3, hq3, hf⟩ := bb_b_some hf
    refine z_callSi (pc := 14) (As := [.long (x2.toInt64), .long ((1 : Int64)), .long ((60 : Int64))]) (rest := []) C (hR.le (by decide)) (c_X5_in hq3) (bb_cut_none _) bv_X5_in bm_X5_49 rfl rfl (Nat.le_of_ble_eq_true rfl) dX5_hush_14 ?_
    refine z_if_ne (pc := 17) C 22 dX5_hush_17 (by decide) (fun hc4 => ?_) (fun hc4 => ?_)
    · have hf := bb_e hf hc4
      refine z_aload_n (pc := 22) (i := 0) C 0 dX5_hush_22 rfl rfl ?_
      refine z_iload_n (pc := 23) (i := 1) C 1 dX5_hush_23 rfl rfl ?_
      obtain ⟨q5, hq5, hf⟩ := bb_b_some hf
      refine z_callVi (pc := 24) (ci := 5) (q0 := 0) (As := [.int x1]) (rest := []) C (hR.le (by decide)) (c_X5_isFree h hq5) (bb_cut_self _ _) bv_X5_isFree bm_X5_67 rfl rfl rfl rfl (Nat.le_of_ble_eq_true rfl) dX5_hush_24 ?_
      refine z_if_ne (pc := 27) C 33 dX5_hush_27 (by decide) (fun hc6 => ?_) (fun hc6 => ?_)
      · have hf := bb_e hf hc6
        refine z_aload_n (pc := 33) (i := 0) C 0 dX5_hush_33 rfl rfl ?_
        obtain ⟨q7, hq7, hf⟩ := bb_b_some hf
        refine z_callVv (pc := 34) (ci := 5) (q0 := 0) (As := []) (rest := []) (ws' := wX5 X.cs h q7) C (hR.le (by decide)) (c_X5_asides h hq7) (bb_cut_self _ _) bv_X5_asides bm_X5_173 rfl rfl rfl rfl (Nat.le_of_ble_eq_true rfl) dX5_hush_34 ?_
        refine z_iconst (pc := 37) C (0 : Int32) dX5_hush_37 (by decide) ?_
        refine z_istore_n (pc := 38) (i := 3) (lv' := [(3, .int ((0 : Int32))), (0, .ref (h 0)), (1, .int x1), (2, .int x2)]) C dX5_hush_38 rfl (by decide) rfl ?_
        refine z_lv [1, 2, 3, 0] rfl ?_
        exact B_X5_hush_39 C hR hr h R  bb_N _ _ _ _ hf
      · have hf := bb_t hf hc6
        refine z_bipush (pc := 30) C (-2 : Int32) dX5_hush_30 (by decide) ?_
        obtain rfl := Option.some.inj hf
        exact z_iret (pc := 32) C hr R dX5_hush_32
    · have hf := bb_t hf hc4
      refine z_lv [] rfl ?_
      exact B_X5_hush_20 C hR hr h R  hf
theorem c_X5_hush {l : Launch} {D : va_G} {cs : Nat → ClassId} (h : Nat → Nat) {s0 : bb_O} {x1 : Int32} {x2 : Int32} {z : (Int32 × bb_O)} (hf : F_X5_hush_0 s0 x1 x2 = some z) : bb_M l yX5_hush cX5_hush 4 (some .int) 7 D cs [.ref (h 0), .int x1, .int x2] (some (.int z.1)) (wX5 cs h s0) (wX5 cs h z.2) := bb_mg (by decide) rfl (Nat.le_of_ble_eq_true rfl) rfl (fun X hl hD hcs C hR hr R => by
  subst hl
  subst hD
  subst hcs
  exact B_X5_hush_0 C hR hr h R hf)
/-! X5_mask: reads, level 3 -/
noncomputable def F_X5_mask_18 (s0 : bb_O) : Option Int32 := some ((-1 : Int32))
set_option maxHeartbeats 4000000 in
set_option maxRecDepth 100000 in
theorem B_X5_mask_18 {X : bb_X} (C : bb_C X RX5 cX5_mask 6) (hR : bb_r X 3) (hr : X.meth.sig.returnType = (some .int)) (h : Nat → Nat) {z : Int32} {s0 : bb_O} (R : bb_R X (some (.int z)) (wX5 X.cs h s0))  (hf : F_X5_mask_18 s0 = some z) : bb_Z X 6 (wX5 X.cs h s0) 18 [] [] := by
  refine z_iconst (pc := 18) C (-1 : Int32) dX5_mask_18 (by decide) ?_
  obtain rfl := Option.some.inj hf
  exact z_iret (pc := 19) C hr R dX5_mask_19
noncomputable def F_X5_mask_113 (s0 : bb_O) (y0 : Int32) : Option Int32 := some y0
set_option maxHeartbeats 4000000 in
set_option maxRecDepth 100000 in
theorem B_X5_mask_113 {X : bb_X} (C : bb_C X RX5 cX5_mask 6) (hR : bb_r X 3) (hr : X.meth.sig.returnType = (some .int)) (h : Nat → Nat) {z : Int32} {s0 : bb_O} (R : bb_R X (some (.int z)) (wX5 X.cs h s0)) {y0 : Int32} (hf : F_X5_mask_113 s0 y0 = some z) : bb_Z X 6 (wX5 X.cs h s0) 113 [] [.int y0] := by
  obtain rfl := Option.some.inj hf
  exact z_iret (pc := 113) C hr R dX5_mask_113
noncomputable def F_X5_mask_105 (s0 : bb_O) (x3 : Int32) : Option Int32 := F_X5_mask_113 s0 x3
set_option maxHeartbeats 4000000 in
set_option maxRecDepth 100000 in
theorem B_X5_mask_105 {X : bb_X} (C : bb_C X RX5 cX5_mask 6) (hR : bb_r X 3) (hr : X.meth.sig.returnType = (some .int)) (h : Nat → Nat) {z : Int32} {s0 : bb_O} (R : bb_R X (some (.int z)) (wX5 X.cs h s0)) {x3 : Int32} (hf : F_X5_mask_105 s0 x3 = some z) : bb_Z X 6 (wX5 X.cs h s0) 105 [(3, .int x3)] [] := by
  refine z_iload_n (pc := 105) (i := 3) C 0 dX5_mask_105 rfl rfl ?_
  refine z_goto (pc := 106) C 113 dX5_mask_106 (by decide) ?_
  refine z_lv [] rfl ?_
  exact B_X5_mask_113 C hR hr h R  hf
noncomputable def F_X5_mask_87 (s0 : bb_O) (k26 : Int32 → Int32 → Int32 → Int32 → Option Int32) (x1 : Int32) (x2 : Int32) (x4 : Int32) (y0 : Int32) : Option Int32 := k26 x1 x2 y0 (x4 + 1)
set_option maxHeartbeats 4000000 in
set_option maxRecDepth 100000 in
theorem B_X5_mask_87 {X : bb_X} (C : bb_C X RX5 cX5_mask 6) (hR : bb_r X 3) (hr : X.meth.sig.returnType = (some .int)) (h : Nat → Nat) {z : Int32} {s0 : bb_O} (R : bb_R X (some (.int z)) (wX5 X.cs h s0)) {k26 : Int32 → Int32 → Int32 → Int32 → Option Int32} (hk26 : ∀ (x1 : Int32) (x2 : Int32) (x3 : Int32) (x4 : Int32), k26 x1 x2 x3 x4 = some z → bb_Z X 6 (wX5 X.cs h s0) 26 [(0, .ref (h 0)), (1, .int x1), (2, .int x2), (3, .int x3), (4, .int x4)] []) {x1 : Int32} {x2 : Int32} {x4 : Int32} {y0 : Int32} (hf : F_X5_mask_87 s0 k26 x1 x2 x4 y0 = some z) : bb_Z X 6 (wX5 X.cs h s0) 87 [(0, .ref (h 0)), (1, .int x1), (2, .int x2), (4, .int x4)] [.int y0] := by
  refine z_istore_n (pc := 87) (i := 3) (lv' := [(3, .int y0), (0, .ref (h 0)), (1, .int x1), (2, .int x2), (4, .int x4)]) C dX5_mask_87 rfl (by decide) rfl ?_
  refine z_iinc (pc := 88) (lv' := [(4, .int (x4 + 1)), (3, .int y0), (0, .ref (h 0)), (1, .int x1), (2, .int x2)]) C (x4 + 1) 4 dX5_mask_88 rfl rfl (by decide) rfl ?_
  refine z_goto (pc := 91) C 26 dX5_mask_91 (by decide) ?_
  refine z_lv [2, 3, 4, 1, 0] rfl ?_
  exact hk26 _ _ _ _ hf
noncomputable def F_X5_mask_74 (s0 : bb_O) (k26 : Int32 → Int32 → Int32 → Int32 → Option Int32) (x1 : Int32) (x2 : Int32) (x3 : Int32) (x4 : Int32) (y0 : Int32) : Option Int32 := if y0 = 0 then (F_X5_mask_87 s0 k26 x1 x2 x4 x3) else (F_X5_mask_87 s0 k26 x1 x2 x4 x4)
set_option maxHeartbeats 4000000 in
set_option maxRecDepth 100000 in
theorem B_X5_mask_74 {X : bb_X} (C : bb_C X RX5 cX5_mask 6) (hR : bb_r X 3) (hr : X.meth.sig.returnType = (some .int)) (h : Nat → Nat) {z : Int32} {s0 : bb_O} (R : bb_R X (some (.int z)) (wX5 X.cs h s0)) {k26 : Int32 → Int32 → Int32 → Int32 → Option Int32} (hk26 : ∀ (x1 : Int32) (x2 : Int32) (x3 : Int32) (x4 : Int32), k26 x1 x2 x3 x4 = some z → bb_Z X 6 (wX5 X.cs h s0) 26 [(0, .ref (h 0)), (1, .int x1), (2, .int x2), (3, .int x3), (4, .int x4)] []) {x1 : Int32} {x2 : Int32} {x3 : Int32} {x4 : Int32} {y0 : Int32} (hf : F_X5_mask_74 s0 k26 x1 x2 x3 x4 y0 = some z) : bb_Z X 6 (wX5 X.cs h s0) 74 [(0, .ref (h 0)), (1, .int x1), (2, .int x2), (3, .int x3), (4, .int x4)] [.int y0] := by
  refine z_istore (pc := 74) (lv' := [(5, .int y0), (0, .ref (h 0)), (1, .int x1), (2, .int x2), (3, .int x3), (4, .int x4)]) C dX5_mask_74 (by decide) rfl ?_
  refine z_iload (pc := 76) C 0 dX5_mask_76 rfl ?_
  refine z_if_eq (pc := 78) C 86 dX5_mask_78 (by decide) (fun hc1 => ?_) (fun hc1 => ?_)
  · have hf := bb_t hf hc1
    refine z_iload_n (pc := 86) (i := 3) C 4 dX5_mask_86 rfl rfl ?_
    refine z_lv [1, 2, 3, 5] rfl ?_
    exact B_X5_mask_87 C hR hr h R hk26 hf
  · have hf := bb_e hf hc1
    refine z_iload (pc := 81) C 5 dX5_mask_81 rfl ?_
    refine z_goto (pc := 83) C 87 dX5_mask_83 (by decide) ?_
    refine z_lv [1, 2, 3, 5] rfl ?_
    exact B_X5_mask_87 C hR hr h R hk26 hf
noncomputable def F_X5_mask_73 (s0 : bb_O) (k26 : Int32 → Int32 → Int32 → Int32 → Option Int32) (x1 : Int32) (x2 : Int32) (x3 : Int32) (x4 : Int32) : Option Int32 := F_X5_mask_74 s0 k26 x1 x2 x3 x4 ((0 : Int32))
set_option maxHeartbeats 4000000 in
set_option maxRecDepth 100000 in
theorem B_X5_mask_73 {X : bb_X} (C : bb_C X RX5 cX5_mask 6) (hR : bb_r X 3) (hr : X.meth.sig.returnType = (some .int)) (h : Nat → Nat) {z : Int32} {s0 : bb_O} (R : bb_R X (some (.int z)) (wX5 X.cs h s0)) {k26 : Int32 → Int32 → Int32 → Int32 → Option Int32} (hk26 : ∀ (x1 : Int32) (x2 : Int32) (x3 : Int32) (x4 : Int32), k26 x1 x2 x3 x4 = some z → bb_Z X 6 (wX5 X.cs h s0) 26 [(0, .ref (h 0)), (1, .int x1), (2, .int x2), (3, .int x3), (4, .int x4)] []) {x1 : Int32} {x2 : Int32} {x3 : Int32} {x4 : Int32} (hf : F_X5_mask_73 s0 k26 x1 x2 x3 x4 = some z) : bb_Z X 6 (wX5 X.cs h s0) 73 [(0, .ref (h 0)), (1, .int x1), (2, .int x2), (3, .int x3), (4, .int x4)] [] := by
  refine z_iconst (pc := 73) C (0 : Int32) dX5_mask_73 (by decide) ?_
  exact B_X5_mask_74 C hR hr h R hk26 hf
noncomputable def F_X5_mask_51 (s0 : bb_O) (k26 : Int32 → Int32 → Int32 → Int32 → Option Int32) (x1 : Int32) (x2 : Int32) (x3 : Int32) (x4 : Int32) : Option Int32 := (F_X5_told_0 s0 x1 ((4 : Int32))).bind (fun q1 => (F_X5_named_0 s0 x1 (q1 ^^^ x4)).bind (fun q2 => if q2 = x1 then (F_X5_mask_73 s0 k26 x1 x2 x3 x4) else (F_X5_mask_74 s0 k26 x1 x2 x3 x4 ((1 : Int32)))))
set_option maxHeartbeats 4000000 in
set_option maxRecDepth 100000 in
theorem B_X5_mask_51 {X : bb_X} (C : bb_C X RX5 cX5_mask 6) (hR : bb_r X 3) (hr : X.meth.sig.returnType = (some .int)) (h : Nat → Nat) {z : Int32} {s0 : bb_O} (R : bb_R X (some (.int z)) (wX5 X.cs h s0)) {k26 : Int32 → Int32 → Int32 → Int32 → Option Int32} (hk26 : ∀ (x1 : Int32) (x2 : Int32) (x3 : Int32) (x4 : Int32), k26 x1 x2 x3 x4 = some z → bb_Z X 6 (wX5 X.cs h s0) 26 [(0, .ref (h 0)), (1, .int x1), (2, .int x2), (3, .int x3), (4, .int x4)] []) {x1 : Int32} {x2 : Int32} {x3 : Int32} {x4 : Int32} (hf : F_X5_mask_51 s0 k26 x1 x2 x3 x4 = some z) : bb_Z X 6 (wX5 X.cs h s0) 51 [(0, .ref (h 0)), (1, .int x1), (2, .int x2), (3, .int x3), (4, .int x4)] [] := by
  refine z_aload_n (pc := 51) (i := 0) C 0 dX5_mask_51 rfl rfl ?_
  refine z_iload_n (pc := 52) (i := 1) C 1 dX5_mask_52 rfl rfl ?_
  refine z_aload_n (pc := 53) (i := 0) C 0 dX5_mask_53 rfl rfl ?_
  refine z_iload_n (pc := 54) (i := 1) C 1 dX5_mask_54 rfl rfl ?_
  refine z_iconst (pc := 55) C (4 : Int32) dX5_mask_55 (by decide) ?_
  obtain ⟨q1, hq1, hf⟩ := bb_b_some hf
  refine z_callVi (pc := 56) (ci := 5) (q0 := 0) (As := [.int x1, .int ((4 : Int32))]) (rest := [.int x1, .ref (h 0)]) C (hR.le (by decide)) (c_X5_told h hq1) (bb_cut_self _ _) bv_X5_told bm_X5_53 rfl rfl rfl rfl (Nat.le_of_ble_eq_true rfl) dX5_mask_56 ?_
  refine z_iload (pc := 59) C 4 dX5_mask_59 rfl ?_
  refine z_ixor (pc := 61) C dX5_mask_61 ?_
  obtain ⟨q2, hq2, hf⟩ := bb_b_some hf
  refine z_callVi (pc := 62) (ci := 5) (q0 := 0) (As := [.int x1, .int (q1 ^^^ x4)]) (rest := []) C (hR.le (by decide)) (c_X5_named h hq2) (bb_cut_self _ _) bv_X5_named bm_X5_83 rfl rfl rfl rfl (Nat.le_of_ble_eq_true rfl) dX5_mask_62 ?_
  refine z_iload_n (pc := 65) (i := 1) C 1 dX5_mask_65 rfl rfl ?_
  refine z_icmp_eq (pc := 66) C 73 dX5_mask_66 (by decide) (fun hc3 => ?_) (fun hc3 => ?_)
  · have hf := bb_t hf hc3
    exact B_X5_mask_73 C hR hr h R hk26 hf
  · have hf := bb_e hf hc3
    refine z_iconst (pc := 69) C (1 : Int32) dX5_mask_69 (by decide) ?_
    refine z_goto (pc := 70) C 74 dX5_mask_70 (by decide) ?_
    exact B_X5_mask_74 C hR hr h R hk26 hf
noncomputable def G_X5_mask_26 (s0 : bb_O) (k26 : Int32 → Int32 → Int32 → Int32 → Option Int32) (x1 : Int32) (x2 : Int32) (x3 : Int32) (x4 : Int32) : Option Int32 := if ((64 : Int32)) ≤ x4 then (if x2 = ((1 : Int32)) then (F_X5_mask_105 s0 x3) else (if x3 = ((-4 : Int32)) then (F_X5_mask_105 s0 x3) else ((F_X5_many_0 x3).bind (fun q4 => F_X5_mask_113 s0 q4)))) else (if x3 = ((-4 : Int32)) then (F_X5_mask_51 s0 k26 x1 x2 x3 x4) else ((F_X5_many_0 x4).bind (fun q6 => (F_X5_many_0 x3).bind (fun q7 => if q7 ≤ q6 then (F_X5_mask_73 s0 k26 x1 x2 x3 x4) else (F_X5_mask_51 s0 k26 x1 x2 x3 x4)))))
noncomputable def F_X5_mask_26 (s0 : bb_O) : Nat → Int32 → Int32 → Int32 → Int32 → Option Int32
  | 0, _, _, _, _ => none
  | n + 1, x1, x2, x3, x4 => G_X5_mask_26 s0 (F_X5_mask_26 s0 n) x1 x2 x3 x4
set_option maxHeartbeats 4000000 in
set_option maxRecDepth 100000 in
theorem A_X5_mask_26 {X : bb_X} (C : bb_C X RX5 cX5_mask 6) (hR : bb_r X 3) (hr : X.meth.sig.returnType = (some .int)) (h : Nat → Nat) {z : Int32} {s0 : bb_O} (R : bb_R X (some (.int z)) (wX5 X.cs h s0)) {k26 : Int32 → Int32 → Int32 → Int32 → Option Int32} (hk26 : ∀ (x1 : Int32) (x2 : Int32) (x3 : Int32) (x4 : Int32), k26 x1 x2 x3 x4 = some z → bb_Z X 6 (wX5 X.cs h s0) 26 [(0, .ref (h 0)), (1, .int x1), (2, .int x2), (3, .int x3), (4, .int x4)] []) {x1 : Int32} {x2 : Int32} {x3 : Int32} {x4 : Int32} (hf : G_X5_mask_26 s0 k26 x1 x2 x3 x4 = some z) : bb_Z X 6 (wX5 X.cs h s0) 26 [(0, .ref (h 0)), (1, .int x1), (2, .int x2), (3, .int x3), (4, .int x4)] [] := by
  refine z_iload (pc := 26) C 4 dX5_mask_26 rfl ?_
  refine z_bipush (pc := 28) C (64 : Int32) dX5_mask_28 (by decide) ?_
  refine z_icmp_ge (pc := 30) C 94 dX5_mask_30 (by decide) (fun hc1 => ?_) (fun hc1 => ?_)
  · have hf := bb_t hf hc1
    refine z_iload_n (pc := 94) (i := 2) C 2 dX5_mask_94 rfl rfl ?_
    refine z_iconst (pc := 95) C (1 : Int32) dX5_mask_95 (by decide) ?_
    refine z_icmp_eq (pc := 96) C 105 dX5_mask_96 (by decide) (fun hc2 => ?_) (fun hc2 => ?_)
    · have hf := bb_t hf hc2
      refine z_lv [3] rfl ?_
      exact B_X5_mask_105 C hR hr h R  hf
    · have hf := bb_e hf hc2
      refine z_iload_n (pc := 99) (i := 3) C 3 dX5_mask_99 rfl rfl ?_
      refine z_bipush (pc := 100) C (-4 : Int32) dX5_mask_100 (by decide) ?_
      refine z_icmp_ne (pc := 102) C 109 dX5_mask_102 (by decide) (fun hc3 => ?_) (fun hc3 => ?_)
      · have hf := bb_e hf hc3
        refine z_iload_n (pc := 109) (i := 3) C 3 dX5_mask_109 rfl rfl ?_
        obtain ⟨q4, hq4, hf⟩ := bb_b_some hf
        refine z_callSi (pc := 110) (As := [.int x3]) (rest := []) C (hR.le (by decide)) (c_X5_many hq4) (bb_cut_none _) bv_X5_many bm_X5_64 rfl rfl (Nat.le_of_ble_eq_true rfl) dX5_mask_110 ?_
        refine z_lv [] rfl ?_
        exact B_X5_mask_113 C hR hr h R  hf
      · have hf := bb_t hf hc3
        refine z_lv [3] rfl ?_
        exact B_X5_mask_105 C hR hr h R  hf
  · have hf := bb_e hf hc1
    refine z_iload_n (pc := 33) (i := 3) C 3 dX5_mask_33 rfl rfl ?_
    refine z_bipush (pc := 34) C (-4 : Int32) dX5_mask_34 (by decide) ?_
    refine z_icmp_eq (pc := 36) C 51 dX5_mask_36 (by decide) (fun hc5 => ?_) (fun hc5 => ?_)
    · have hf := bb_t hf hc5
      exact B_X5_mask_51 C hR hr h R hk26 hf
    · have hf := bb_e hf hc5
      refine z_iload (pc := 39) C 4 dX5_mask_39 rfl ?_
      obtain ⟨q6, hq6, hf⟩ := bb_b_some hf
      refine z_callSi (pc := 41) (As := [.int x4]) (rest := []) C (hR.le (by decide)) (c_X5_many hq6) (bb_cut_none _) bv_X5_many bm_X5_64 rfl rfl (Nat.le_of_ble_eq_true rfl) dX5_mask_41 ?_
      refine z_iload_n (pc := 44) (i := 3) C 3 dX5_mask_44 rfl rfl ?_
      obtain ⟨q7, hq7, hf⟩ := bb_b_some hf
      refine z_callSi (pc := 45) (As := [.int x3]) (rest := [.int q6]) C (hR.le (by decide)) (c_X5_many hq7) (bb_cut_none _) bv_X5_many bm_X5_64 rfl rfl (Nat.le_of_ble_eq_true rfl) dX5_mask_45 ?_
      refine z_icmp_ge (pc := 48) C 73 dX5_mask_48 (by decide) (fun hc8 => ?_) (fun hc8 => ?_)
      · have hf := bb_t hf hc8
        exact B_X5_mask_73 C hR hr h R hk26 hf
      · have hf := bb_e hf hc8
        exact B_X5_mask_51 C hR hr h R hk26 hf
theorem B_X5_mask_26 {X : bb_X} (C : bb_C X RX5 cX5_mask 6) (hR : bb_r X 3) (hr : X.meth.sig.returnType = (some .int)) (h : Nat → Nat) {z : Int32} {s0 : bb_O} (R : bb_R X (some (.int z)) (wX5 X.cs h s0)) : ∀ (n : Nat) (x1 : Int32) (x2 : Int32) (x3 : Int32) (x4 : Int32), F_X5_mask_26 s0 n x1 x2 x3 x4 = some z → bb_Z X 6 (wX5 X.cs h s0) 26 [(0, .ref (h 0)), (1, .int x1), (2, .int x2), (3, .int x3), (4, .int x4)] [] := by
  intro n
  induction n with
  | zero =>
    intro x1 x2 x3 x4 hf
    cases hf
  | succ n ih =>
    intro x1 x2 x3 x4 hf
    exact A_X5_mask_26 C hR hr h R  ih hf
noncomputable def F_X5_mask_0 (s0 : bb_O) (x1 : Int32) (x2 : Int32) : Option Int32 := (F_X5_isPerson_0 s0 x1).bind (fun q1 => if q1 = 0 then (F_X5_mask_18 s0) else ((F_X5_in_0 (x2.toInt64) ((0 : Int64)) ((1 : Int64))).bind (fun q3 => if q3 = 0 then (F_X5_mask_18 s0) else (F_X5_mask_26 s0 bb_N x1 x2 ((-4 : Int32)) ((0 : Int32))))))
set_option maxHeartbeats 4000000 in
set_option maxRecDepth 100000 in
theorem B_X5_mask_0 {X : bb_X} (C : bb_C X RX5 cX5_mask 6) (hR : bb_r X 3) (hr : X.meth.sig.returnType = (some .int)) (h : Nat → Nat) {z : Int32} {s0 : bb_O} (R : bb_R X (some (.int z)) (wX5 X.cs h s0)) {x1 : Int32} {x2 : Int32} (hf : F_X5_mask_0 s0 x1 x2 = some z) : bb_Z X 6 (wX5 X.cs h s0) 0 [(0, .ref (h 0)), (1, .int x1), (2, .int x2)] [] := by
  refine z_aload_n (pc := 0) (i := 0) C 0 dX5_mask_0 rfl rfl ?_
  refine z_iload_n (pc := 1) (i := 1) C 1 dX5_mask_1 rfl rfl ?_
  obtain ⟨q1, hq1, hf⟩ := bb_b_some hf
  refine z_callVi (pc := 2) (ci := 5) (q0 := 0) (As := [.int x1]) (rest := []) C (hR.le (by decide)) (c_X5_isPerson h hq1) (bb_cut_self _ _) bv_X5_isPerson bm_X5_107 rfl rfl rfl rfl (Nat.le_of_ble_eq_true rfl) dX5_mask_2 ?_
  refine z_if_eq (pc := 5) C 18 dX5_mask_5 (by decide) (fun hc2 => ?_) (fun hc2 => ?_)
  · have hf := bb_t hf hc2
    refine z_lv [] rfl ?_
    exact B_X5_mask_18 C hR hr h R  hf
  · have hf := bb_e hf hc2
    refine z_iload_n (pc := 8) (i := 2) C 2 dX5_mask_8 rfl rfl ?_
    refine z_i2l (pc := 9) C dX5_mask_9 ?_
    refine z_lconst (pc := 10) C (0 : Int64) dX5_mask_10 (by decide) ?_
    refine z_lconst (pc := 11) C (1 : Int64) dX5_mask_11 (by decide) ?_
    obtain ⟨q3, hq3, hf⟩ := bb_b_some hf
    refine z_callSi (pc := 12) (As := [.long (x2.toInt64), .long ((0 : Int64)), .long ((1 : Int64))]) (rest := []) C (hR.le (by decide)) (c_X5_in hq3) (bb_cut_none _) bv_X5_in bm_X5_49 rfl rfl (Nat.le_of_ble_eq_true rfl) dX5_mask_12 ?_
    refine z_if_ne (pc := 15) C 20 dX5_mask_15 (by decide) (fun hc4 => ?_) (fun hc4 => ?_)
    · have hf := bb_e hf hc4
      refine z_bipush (pc := 20) C (-4 : Int32) dX5_mask_20 (by decide) ?_
      refine z_istore_n (pc := 22) (i := 3) (lv' := [(3, .int ((-4 : Int32))), (0, .ref (h 0)), (1, .int x1), (2, .int x2)]) C dX5_mask_22 rfl (by decide) rfl ?_
      refine z_iconst (pc := 23) C (0 : Int32) dX5_mask_23 (by decide) ?_
      refine z_istore (pc := 24) (lv' := [(4, .int ((0 : Int32))), (3, .int ((-4 : Int32))), (0, .ref (h 0)), (1, .int x1), (2, .int x2)]) C dX5_mask_24 (by decide) rfl ?_
      refine z_lv [2, 3, 4, 1, 0] rfl ?_
      exact B_X5_mask_26 C hR hr h R  bb_N _ _ _ _ hf
    · have hf := bb_t hf hc4
      refine z_lv [] rfl ?_
      exact B_X5_mask_18 C hR hr h R  hf
theorem c_X5_mask {l : Launch} {D : va_G} {cs : Nat → ClassId} (h : Nat → Nat) {s0 : bb_O} {x1 : Int32} {x2 : Int32} {z : Int32} (hf : F_X5_mask_0 s0 x1 x2 = some z) : bb_M l yX5_mask cX5_mask 6 (some .int) 3 D cs [.ref (h 0), .int x1, .int x2] (some (.int z)) (wX5 cs h s0) (wX5 cs h s0) := bb_mg (by decide) rfl (Nat.le_of_ble_eq_true rfl) rfl (fun X hl hD hcs C hR hr R => by
  subst hl
  subst hD
  subst hcs
  exact B_X5_mask_0 C hR hr h R hf)
/-! X5_alike: reads, level 2 -/
noncomputable def F_X5_alike_22 (s0 : bb_O) : Option Int32 := some ((-1 : Int32))
set_option maxHeartbeats 4000000 in
set_option maxRecDepth 100000 in
theorem B_X5_alike_22 {X : bb_X} (C : bb_C X RX5 cX5_alike 8) (hR : bb_r X 2) (hr : X.meth.sig.returnType = (some .int)) (h : Nat → Nat) {z : Int32} {s0 : bb_O} (R : bb_R X (some (.int z)) (wX5 X.cs h s0))  (hf : F_X5_alike_22 s0 = some z) : bb_Z X 8 (wX5 X.cs h s0) 22 [] [] := by
  refine z_iconst (pc := 22) C (-1 : Int32) dX5_alike_22 (by decide) ?_
  obtain rfl := Option.some.inj hf
  exact z_iret (pc := 23) C hr R dX5_alike_23
noncomputable def F_X5_alike_149 (s0 : bb_O) (y0 : Int32) : Option Int32 := some y0
set_option maxHeartbeats 4000000 in
set_option maxRecDepth 100000 in
theorem B_X5_alike_149 {X : bb_X} (C : bb_C X RX5 cX5_alike 8) (hR : bb_r X 2) (hr : X.meth.sig.returnType = (some .int)) (h : Nat → Nat) {z : Int32} {s0 : bb_O} (R : bb_R X (some (.int z)) (wX5 X.cs h s0)) {y0 : Int32} (hf : F_X5_alike_149 s0 y0 = some z) : bb_Z X 8 (wX5 X.cs h s0) 149 [] [.int y0] := by
  obtain rfl := Option.some.inj hf
  exact z_iret (pc := 149) C hr R dX5_alike_149
noncomputable def F_X5_alike_125 (s0 : bb_O) (k33 : Int32 → Int32 → Int32 → Int32 → Int32 → Option Int32) (k50 : Int32 → Int32 → Int32 → Int32 → Int32 → Int32 → Option Int32) (x1 : Int32) (x2 : Int32) (x4 : Int32) (x5 : Int32) (x6 : Int32) (y0 : Int32) (y1 : Int32) : Option Int32 := k50 x1 x2 (y1 + y0) x4 x5 (x6 + 1)
set_option maxHeartbeats 4000000 in
set_option maxRecDepth 100000 in
theorem B_X5_alike_125 {X : bb_X} (C : bb_C X RX5 cX5_alike 8) (hR : bb_r X 2) (hr : X.meth.sig.returnType = (some .int)) (h : Nat → Nat) {z : Int32} {s0 : bb_O} (R : bb_R X (some (.int z)) (wX5 X.cs h s0)) {k33 : Int32 → Int32 → Int32 → Int32 → Int32 → Option Int32} (hk33 : ∀ (x1 : Int32) (x2 : Int32) (x3 : Int32) (x4 : Int32) (x5 : Int32), k33 x1 x2 x3 x4 x5 = some z → bb_Z X 8 (wX5 X.cs h s0) 33 [(0, .ref (h 0)), (1, .int x1), (2, .int x2), (3, .int x3), (4, .int x4), (5, .int x5)] []) {k50 : Int32 → Int32 → Int32 → Int32 → Int32 → Int32 → Option Int32} (hk50 : ∀ (x1 : Int32) (x2 : Int32) (x3 : Int32) (x4 : Int32) (x5 : Int32) (x6 : Int32), k50 x1 x2 x3 x4 x5 x6 = some z → bb_Z X 8 (wX5 X.cs h s0) 50 [(0, .ref (h 0)), (1, .int x1), (2, .int x2), (3, .int x3), (4, .int x4), (5, .int x5), (6, .int x6)] []) {x1 : Int32} {x2 : Int32} {x4 : Int32} {x5 : Int32} {x6 : Int32} {y0 : Int32} {y1 : Int32} (hf : F_X5_alike_125 s0 k33 k50 x1 x2 x4 x5 x6 y0 y1 = some z) : bb_Z X 8 (wX5 X.cs h s0) 125 [(0, .ref (h 0)), (1, .int x1), (2, .int x2), (4, .int x4), (5, .int x5), (6, .int x6)] [.int y0, .int y1] := by
  refine z_iadd (pc := 125) C dX5_alike_125 ?_
  refine z_istore_n (pc := 126) (i := 3) (lv' := [(3, .int (y1 + y0)), (0, .ref (h 0)), (1, .int x1), (2, .int x2), (4, .int x4), (5, .int x5), (6, .int x6)]) C dX5_alike_126 rfl (by decide) rfl ?_
  refine z_iinc (pc := 127) (lv' := [(6, .int (x6 + 1)), (3, .int (y1 + y0)), (0, .ref (h 0)), (1, .int x1), (2, .int x2), (4, .int x4), (5, .int x5)]) C (x6 + 1) 6 dX5_alike_127 rfl rfl (by decide) rfl ?_
  refine z_goto (pc := 130) C 50 dX5_alike_130 (by decide) ?_
  refine z_lv [2, 3, 4, 1, 5, 6, 0] rfl ?_
  exact hk50 _ _ _ _ _ _ hf
noncomputable def F_X5_alike_112 (s0 : bb_O) (k33 : Int32 → Int32 → Int32 → Int32 → Int32 → Option Int32) (k50 : Int32 → Int32 → Int32 → Int32 → Int32 → Int32 → Option Int32) (x1 : Int32) (x2 : Int32) (x3 : Int32) (x5 : Int32) (x6 : Int32) (x7 : Int32) (y0 : Int32) : Option Int32 := if x7 = 0 then (F_X5_alike_125 s0 k33 k50 x1 x2 y0 x5 x6 ((0 : Int32)) x3) else (F_X5_alike_125 s0 k33 k50 x1 x2 y0 x5 x6 ((1 : Int32)) x3)
set_option maxHeartbeats 4000000 in
set_option maxRecDepth 100000 in
theorem B_X5_alike_112 {X : bb_X} (C : bb_C X RX5 cX5_alike 8) (hR : bb_r X 2) (hr : X.meth.sig.returnType = (some .int)) (h : Nat → Nat) {z : Int32} {s0 : bb_O} (R : bb_R X (some (.int z)) (wX5 X.cs h s0)) {k33 : Int32 → Int32 → Int32 → Int32 → Int32 → Option Int32} (hk33 : ∀ (x1 : Int32) (x2 : Int32) (x3 : Int32) (x4 : Int32) (x5 : Int32), k33 x1 x2 x3 x4 x5 = some z → bb_Z X 8 (wX5 X.cs h s0) 33 [(0, .ref (h 0)), (1, .int x1), (2, .int x2), (3, .int x3), (4, .int x4), (5, .int x5)] []) {k50 : Int32 → Int32 → Int32 → Int32 → Int32 → Int32 → Option Int32} (hk50 : ∀ (x1 : Int32) (x2 : Int32) (x3 : Int32) (x4 : Int32) (x5 : Int32) (x6 : Int32), k50 x1 x2 x3 x4 x5 x6 = some z → bb_Z X 8 (wX5 X.cs h s0) 50 [(0, .ref (h 0)), (1, .int x1), (2, .int x2), (3, .int x3), (4, .int x4), (5, .int x5), (6, .int x6)] []) {x1 : Int32} {x2 : Int32} {x3 : Int32} {x5 : Int32} {x6 : Int32} {x7 : Int32} {y0 : Int32} (hf : F_X5_alike_112 s0 k33 k50 x1 x2 x3 x5 x6 x7 y0 = some z) : bb_Z X 8 (wX5 X.cs h s0) 112 [(0, .ref (h 0)), (1, .int x1), (2, .int x2), (3, .int x3), (5, .int x5), (6, .int x6), (7, .int x7)] [.int y0] := by
  refine z_istore (pc := 112) (lv' := [(4, .int y0), (0, .ref (h 0)), (1, .int x1), (2, .int x2), (3, .int x3), (5, .int x5), (6, .int x6), (7, .int x7)]) C dX5_alike_112 (by decide) rfl ?_
  refine z_iload_n (pc := 114) (i := 3) C 4 dX5_alike_114 rfl rfl ?_
  refine z_iload (pc := 115) C 7 dX5_alike_115 rfl ?_
  refine z_if_eq (pc := 117) C 124 dX5_alike_117 (by decide) (fun hc1 => ?_) (fun hc1 => ?_)
  · have hf := bb_t hf hc1
    refine z_iconst (pc := 124) C (0 : Int32) dX5_alike_124 (by decide) ?_
    refine z_lv [1, 2, 3, 0, 5, 6] rfl ?_
    exact B_X5_alike_125 C hR hr h R hk33 hk50 hf
  · have hf := bb_e hf hc1
    refine z_iconst (pc := 120) C (1 : Int32) dX5_alike_120 (by decide) ?_
    refine z_goto (pc := 121) C 125 dX5_alike_121 (by decide) ?_
    refine z_lv [1, 2, 3, 0, 5, 6] rfl ?_
    exact B_X5_alike_125 C hR hr h R hk33 hk50 hf
noncomputable def F_X5_alike_110 (s0 : bb_O) (k33 : Int32 → Int32 → Int32 → Int32 → Int32 → Option Int32) (k50 : Int32 → Int32 → Int32 → Int32 → Int32 → Int32 → Option Int32) (x1 : Int32) (x2 : Int32) (x3 : Int32) (x4 : Int32) (x5 : Int32) (x6 : Int32) (x7 : Int32) : Option Int32 := F_X5_alike_112 s0 k33 k50 x1 x2 x3 x5 x6 x7 x4
set_option maxHeartbeats 4000000 in
set_option maxRecDepth 100000 in
theorem B_X5_alike_110 {X : bb_X} (C : bb_C X RX5 cX5_alike 8) (hR : bb_r X 2) (hr : X.meth.sig.returnType = (some .int)) (h : Nat → Nat) {z : Int32} {s0 : bb_O} (R : bb_R X (some (.int z)) (wX5 X.cs h s0)) {k33 : Int32 → Int32 → Int32 → Int32 → Int32 → Option Int32} (hk33 : ∀ (x1 : Int32) (x2 : Int32) (x3 : Int32) (x4 : Int32) (x5 : Int32), k33 x1 x2 x3 x4 x5 = some z → bb_Z X 8 (wX5 X.cs h s0) 33 [(0, .ref (h 0)), (1, .int x1), (2, .int x2), (3, .int x3), (4, .int x4), (5, .int x5)] []) {k50 : Int32 → Int32 → Int32 → Int32 → Int32 → Int32 → Option Int32} (hk50 : ∀ (x1 : Int32) (x2 : Int32) (x3 : Int32) (x4 : Int32) (x5 : Int32) (x6 : Int32), k50 x1 x2 x3 x4 x5 x6 = some z → bb_Z X 8 (wX5 X.cs h s0) 50 [(0, .ref (h 0)), (1, .int x1), (2, .int x2), (3, .int x3), (4, .int x4), (5, .int x5), (6, .int x6)] []) {x1 : Int32} {x2 : Int32} {x3 : Int32} {x4 : Int32} {x5 : Int32} {x6 : Int32} {x7 : Int32} (hf : F_X5_alike_110 s0 k33 k50 x1 x2 x3 x4 x5 x6 x7 = some z) : bb_Z X 8 (wX5 X.cs h s0) 110 [(0, .ref (h 0)), (1, .int x1), (2, .int x2), (3, .int x3), (4, .int x4), (5, .int x5), (6, .int x6), (7, .int x7)] [] := by
  refine z_iload (pc := 110) C 4 dX5_alike_110 rfl ?_
  refine z_lv [0, 1, 2, 3, 5, 6, 7] rfl ?_
  exact B_X5_alike_112 C hR hr h R hk33 hk50 hf
noncomputable def F_X5_alike_88 (s0 : bb_O) (k33 : Int32 → Int32 → Int32 → Int32 → Int32 → Option Int32) (k50 : Int32 → Int32 → Int32 → Int32 → Int32 → Int32 → Option Int32) (x1 : Int32) (x2 : Int32) (x3 : Int32) (x4 : Int32) (x5 : Int32) (x6 : Int32) (y0 : Int32) : Option Int32 := if y0 = 0 then (F_X5_alike_110 s0 k33 k50 x1 x2 x3 x4 x5 x6 y0) else (if x3 = 0 then (F_X5_alike_112 s0 k33 k50 x1 x2 x3 x5 x6 y0 ((((10 : Int32)) * x5) + x6)) else (F_X5_alike_110 s0 k33 k50 x1 x2 x3 x4 x5 x6 y0))
set_option maxHeartbeats 4000000 in
set_option maxRecDepth 100000 in
theorem B_X5_alike_88 {X : bb_X} (C : bb_C X RX5 cX5_alike 8) (hR : bb_r X 2) (hr : X.meth.sig.returnType = (some .int)) (h : Nat → Nat) {z : Int32} {s0 : bb_O} (R : bb_R X (some (.int z)) (wX5 X.cs h s0)) {k33 : Int32 → Int32 → Int32 → Int32 → Int32 → Option Int32} (hk33 : ∀ (x1 : Int32) (x2 : Int32) (x3 : Int32) (x4 : Int32) (x5 : Int32), k33 x1 x2 x3 x4 x5 = some z → bb_Z X 8 (wX5 X.cs h s0) 33 [(0, .ref (h 0)), (1, .int x1), (2, .int x2), (3, .int x3), (4, .int x4), (5, .int x5)] []) {k50 : Int32 → Int32 → Int32 → Int32 → Int32 → Int32 → Option Int32} (hk50 : ∀ (x1 : Int32) (x2 : Int32) (x3 : Int32) (x4 : Int32) (x5 : Int32) (x6 : Int32), k50 x1 x2 x3 x4 x5 x6 = some z → bb_Z X 8 (wX5 X.cs h s0) 50 [(0, .ref (h 0)), (1, .int x1), (2, .int x2), (3, .int x3), (4, .int x4), (5, .int x5), (6, .int x6)] []) {x1 : Int32} {x2 : Int32} {x3 : Int32} {x4 : Int32} {x5 : Int32} {x6 : Int32} {y0 : Int32} (hf : F_X5_alike_88 s0 k33 k50 x1 x2 x3 x4 x5 x6 y0 = some z) : bb_Z X 8 (wX5 X.cs h s0) 88 [(0, .ref (h 0)), (1, .int x1), (2, .int x2), (3, .int x3), (4, .int x4), (5, .int x5), (6, .int x6)] [.int y0] := by
  refine z_istore (pc := 88) (lv' := [(7, .int y0), (0, .ref (h 0)), (1, .int x1), (2, .int x2), (3, .int x3), (4, .int x4), (5, .int x5), (6, .int x6)]) C dX5_alike_88 (by decide) rfl ?_
  refine z_iload (pc := 90) C 0 dX5_alike_90 rfl ?_
  refine z_if_eq (pc := 92) C 110 dX5_alike_92 (by decide) (fun hc1 => ?_) (fun hc1 => ?_)
  · have hf := bb_t hf hc1
    refine z_lv [1, 2, 3, 4, 5, 6, 7, 0] rfl ?_
    exact B_X5_alike_110 C hR hr h R hk33 hk50 hf
  · have hf := bb_e hf hc1
    refine z_iload_n (pc := 95) (i := 3) C 4 dX5_alike_95 rfl rfl ?_
    refine z_if_ne (pc := 96) C 110 dX5_alike_96 (by decide) (fun hc2 => ?_) (fun hc2 => ?_)
    · have hf := bb_e hf hc2
      refine z_lv [1, 2, 3, 4, 5, 6, 7, 0] rfl ?_
      exact B_X5_alike_110 C hR hr h R hk33 hk50 hf
    · have hf := bb_t hf hc2
      refine z_bipush (pc := 99) C (10 : Int32) dX5_alike_99 (by decide) ?_
      refine z_iload (pc := 101) C 6 dX5_alike_101 rfl ?_
      refine z_imul (pc := 103) C dX5_alike_103 ?_
      refine z_iload (pc := 104) C 7 dX5_alike_104 rfl ?_
      refine z_iadd (pc := 106) C dX5_alike_106 ?_
      refine z_goto (pc := 107) C 112 dX5_alike_107 (by decide) ?_
      refine z_lv [1, 2, 3, 4, 6, 7, 0] rfl ?_
      exact B_X5_alike_112 C hR hr h R hk33 hk50 hf
noncomputable def G_X5_alike_50 (s0 : bb_O) (k33 : Int32 → Int32 → Int32 → Int32 → Int32 → Option Int32) (k50 : Int32 → Int32 → Int32 → Int32 → Int32 → Int32 → Option Int32) (x1 : Int32) (x2 : Int32) (x3 : Int32) (x4 : Int32) (x5 : Int32) (x6 : Int32) : Option Int32 := if (s0.2.1 0 2) ≤ x6 then (k33 x1 x2 x3 x4 (x5 + 1)) else ((F_X5_told_0 s0 x5 ((3 : Int32))).bind (fun q2 => (F_X5_told_0 s0 x6 ((3 : Int32))).bind (fun q3 => (F_X5_many_0 (q2 ^^^ q3)).bind (fun q4 => if x1 < q4 then (F_X5_alike_88 s0 k33 k50 x1 x2 x3 x4 x5 x6 ((0 : Int32))) else (F_X5_alike_88 s0 k33 k50 x1 x2 x3 x4 x5 x6 ((1 : Int32)))))))
noncomputable def F_X5_alike_50 (s0 : bb_O) (k33 : Int32 → Int32 → Int32 → Int32 → Int32 → Option Int32) : Nat → Int32 → Int32 → Int32 → Int32 → Int32 → Int32 → Option Int32
  | 0, _, _, _, _, _, _ => none
  | n + 1, x1, x2, x3, x4, x5, x6 => G_X5_alike_50 s0 k33 (F_X5_alike_50 s0 k33 n) x1 x2 x3 x4 x5 x6
set_option maxHeartbeats 4000000 in
set_option maxRecDepth 100000 in
theorem A_X5_alike_50 {X : bb_X} (C : bb_C X RX5 cX5_alike 8) (hR : bb_r X 2) (hr : X.meth.sig.returnType = (some .int)) (h : Nat → Nat) {z : Int32} {s0 : bb_O} (R : bb_R X (some (.int z)) (wX5 X.cs h s0)) {k33 : Int32 → Int32 → Int32 → Int32 → Int32 → Option Int32} (hk33 : ∀ (x1 : Int32) (x2 : Int32) (x3 : Int32) (x4 : Int32) (x5 : Int32), k33 x1 x2 x3 x4 x5 = some z → bb_Z X 8 (wX5 X.cs h s0) 33 [(0, .ref (h 0)), (1, .int x1), (2, .int x2), (3, .int x3), (4, .int x4), (5, .int x5)] []) {k50 : Int32 → Int32 → Int32 → Int32 → Int32 → Int32 → Option Int32} (hk50 : ∀ (x1 : Int32) (x2 : Int32) (x3 : Int32) (x4 : Int32) (x5 : Int32) (x6 : Int32), k50 x1 x2 x3 x4 x5 x6 = some z → bb_Z X 8 (wX5 X.cs h s0) 50 [(0, .ref (h 0)), (1, .int x1), (2, .int x2), (3, .int x3), (4, .int x4), (5, .int x5), (6, .int x6)] []) {x1 : Int32} {x2 : Int32} {x3 : Int32} {x4 : Int32} {x5 : Int32} {x6 : Int32} (hf : G_X5_alike_50 s0 k33 k50 x1 x2 x3 x4 x5 x6 = some z) : bb_Z X 8 (wX5 X.cs h s0) 50 [(0, .ref (h 0)), (1, .int x1), (2, .int x2), (3, .int x3), (4, .int x4), (5, .int x5), (6, .int x6)] [] := by
  refine z_iload (pc := 50) C 6 dX5_alike_50 rfl ?_
  refine z_aload_n (pc := 52) (i := 0) C 0 dX5_alike_52 rfl rfl ?_
  refine z_get (pc := 53) (ci := 5) C (.ref (h 1)) bi_X5 rfl 0 0 (by decide) rfl bf_X5_7 rfl rfl dX5_alike_53 ?_
  refine z_iconst (pc := 56) C (2 : Int32) dX5_alike_56 (by decide) ?_
  refine z_iald (pc := 57) C 1 0 (2) rfl rfl (show ¬ ((2 : Int32) < 0 ∨ 39 ≤ (2 : Int32).toNatClampNeg) by decide) (by decide) dX5_alike_57 ?_
  refine z_icmp_ge (pc := 58) C 133 dX5_alike_58 (by decide) (fun hc1 => ?_) (fun hc1 => ?_)
  · have hf := bb_t hf hc1
    refine z_iinc (pc := 133) (lv' := [(5, .int (x5 + 1)), (0, .ref (h 0)), (1, .int x1), (2, .int x2), (3, .int x3), (4, .int x4), (6, .int x6)]) C (x5 + 1) 5 dX5_alike_133 rfl rfl (by decide) rfl ?_
    refine z_goto (pc := 136) C 33 dX5_alike_136 (by decide) ?_
    refine z_lv [1, 2, 3, 4, 5, 0] rfl ?_
    exact hk33 _ _ _ _ _ hf
  · have hf := bb_e hf hc1
    refine z_aload_n (pc := 61) (i := 0) C 0 dX5_alike_61 rfl rfl ?_
    refine z_iload (pc := 62) C 5 dX5_alike_62 rfl ?_
    refine z_iconst (pc := 64) C (3 : Int32) dX5_alike_64 (by decide) ?_
    obtain ⟨q2, hq2, hf⟩ := bb_b_some hf
    refine z_callVi (pc := 65) (ci := 5) (q0 := 0) (As := [.int x5, .int ((3 : Int32))]) (rest := []) C (hR.le (by decide)) (c_X5_told h hq2) (bb_cut_self _ _) bv_X5_told bm_X5_53 rfl rfl rfl rfl (Nat.le_of_ble_eq_true rfl) dX5_alike_65 ?_
    refine z_aload_n (pc := 68) (i := 0) C 0 dX5_alike_68 rfl rfl ?_
    refine z_iload (pc := 69) C 6 dX5_alike_69 rfl ?_
    refine z_iconst (pc := 71) C (3 : Int32) dX5_alike_71 (by decide) ?_
    obtain ⟨q3, hq3, hf⟩ := bb_b_some hf
    refine z_callVi (pc := 72) (ci := 5) (q0 := 0) (As := [.int x6, .int ((3 : Int32))]) (rest := [.int q2]) C (hR.le (by decide)) (c_X5_told h hq3) (bb_cut_self _ _) bv_X5_told bm_X5_53 rfl rfl rfl rfl (Nat.le_of_ble_eq_true rfl) dX5_alike_72 ?_
    refine z_ixor (pc := 75) C dX5_alike_75 ?_
    obtain ⟨q4, hq4, hf⟩ := bb_b_some hf
    refine z_callSi (pc := 76) (As := [.int (q2 ^^^ q3)]) (rest := []) C (hR.le (by decide)) (c_X5_many hq4) (bb_cut_none _) bv_X5_many bm_X5_64 rfl rfl (Nat.le_of_ble_eq_true rfl) dX5_alike_76 ?_
    refine z_iload_n (pc := 79) (i := 1) C 1 dX5_alike_79 rfl rfl ?_
    refine z_icmp_gt (pc := 80) C 87 dX5_alike_80 (by decide) (fun hc5 => ?_) (fun hc5 => ?_)
    · have hf := bb_t hf hc5
      refine z_iconst (pc := 87) C (0 : Int32) dX5_alike_87 (by decide) ?_
      exact B_X5_alike_88 C hR hr h R hk33 hk50 hf
    · have hf := bb_e hf hc5
      refine z_iconst (pc := 83) C (1 : Int32) dX5_alike_83 (by decide) ?_
      refine z_goto (pc := 84) C 88 dX5_alike_84 (by decide) ?_
      exact B_X5_alike_88 C hR hr h R hk33 hk50 hf
theorem B_X5_alike_50 {X : bb_X} (C : bb_C X RX5 cX5_alike 8) (hR : bb_r X 2) (hr : X.meth.sig.returnType = (some .int)) (h : Nat → Nat) {z : Int32} {s0 : bb_O} (R : bb_R X (some (.int z)) (wX5 X.cs h s0)) {k33 : Int32 → Int32 → Int32 → Int32 → Int32 → Option Int32} (hk33 : ∀ (x1 : Int32) (x2 : Int32) (x3 : Int32) (x4 : Int32) (x5 : Int32), k33 x1 x2 x3 x4 x5 = some z → bb_Z X 8 (wX5 X.cs h s0) 33 [(0, .ref (h 0)), (1, .int x1), (2, .int x2), (3, .int x3), (4, .int x4), (5, .int x5)] []) : ∀ (n : Nat) (x1 : Int32) (x2 : Int32) (x3 : Int32) (x4 : Int32) (x5 : Int32) (x6 : Int32), F_X5_alike_50 s0 k33 n x1 x2 x3 x4 x5 x6 = some z → bb_Z X 8 (wX5 X.cs h s0) 50 [(0, .ref (h 0)), (1, .int x1), (2, .int x2), (3, .int x3), (4, .int x4), (5, .int x5), (6, .int x6)] [] := by
  intro n
  induction n with
  | zero =>
    intro x1 x2 x3 x4 x5 x6 hf
    cases hf
  | succ n ih =>
    intro x1 x2 x3 x4 x5 x6 hf
    exact A_X5_alike_50 C hR hr h R hk33 ih hf
noncomputable def G_X5_alike_33 (s0 : bb_O) (k33 : Int32 → Int32 → Int32 → Int32 → Int32 → Option Int32) (x1 : Int32) (x2 : Int32) (x3 : Int32) (x4 : Int32) (x5 : Int32) : Option Int32 := if (s0.2.1 0 2) ≤ x5 then (if x2 = 0 then (F_X5_alike_149 s0 x3) else (F_X5_alike_149 s0 x4)) else (F_X5_alike_50 s0 k33 bb_N x1 x2 x3 x4 x5 (x5 + ((1 : Int32))))
noncomputable def F_X5_alike_33 (s0 : bb_O) : Nat → Int32 → Int32 → Int32 → Int32 → Int32 → Option Int32
  | 0, _, _, _, _, _ => none
  | n + 1, x1, x2, x3, x4, x5 => G_X5_alike_33 s0 (F_X5_alike_33 s0 n) x1 x2 x3 x4 x5
set_option maxHeartbeats 4000000 in
set_option maxRecDepth 100000 in
theorem A_X5_alike_33 {X : bb_X} (C : bb_C X RX5 cX5_alike 8) (hR : bb_r X 2) (hr : X.meth.sig.returnType = (some .int)) (h : Nat → Nat) {z : Int32} {s0 : bb_O} (R : bb_R X (some (.int z)) (wX5 X.cs h s0)) {k33 : Int32 → Int32 → Int32 → Int32 → Int32 → Option Int32} (hk33 : ∀ (x1 : Int32) (x2 : Int32) (x3 : Int32) (x4 : Int32) (x5 : Int32), k33 x1 x2 x3 x4 x5 = some z → bb_Z X 8 (wX5 X.cs h s0) 33 [(0, .ref (h 0)), (1, .int x1), (2, .int x2), (3, .int x3), (4, .int x4), (5, .int x5)] []) {x1 : Int32} {x2 : Int32} {x3 : Int32} {x4 : Int32} {x5 : Int32} (hf : G_X5_alike_33 s0 k33 x1 x2 x3 x4 x5 = some z) : bb_Z X 8 (wX5 X.cs h s0) 33 [(0, .ref (h 0)), (1, .int x1), (2, .int x2), (3, .int x3), (4, .int x4), (5, .int x5)] [] := by
  refine z_iload (pc := 33) C 5 dX5_alike_33 rfl ?_
  refine z_aload_n (pc := 35) (i := 0) C 0 dX5_alike_35 rfl rfl ?_
  refine z_get (pc := 36) (ci := 5) C (.ref (h 1)) bi_X5 rfl 0 0 (by decide) rfl bf_X5_7 rfl rfl dX5_alike_36 ?_
  refine z_iconst (pc := 39) C (2 : Int32) dX5_alike_39 (by decide) ?_
  refine z_iald (pc := 40) C 1 0 (2) rfl rfl (show ¬ ((2 : Int32) < 0 ∨ 39 ≤ (2 : Int32).toNatClampNeg) by decide) (by decide) dX5_alike_40 ?_
  refine z_icmp_ge (pc := 41) C 139 dX5_alike_41 (by decide) (fun hc1 => ?_) (fun hc1 => ?_)
  · have hf := bb_t hf hc1
    refine z_iload_n (pc := 139) (i := 2) C 2 dX5_alike_139 rfl rfl ?_
    refine z_if_ne (pc := 140) C 147 dX5_alike_140 (by decide) (fun hc2 => ?_) (fun hc2 => ?_)
    · have hf := bb_e hf hc2
      refine z_iload (pc := 147) C 4 dX5_alike_147 rfl ?_
      refine z_lv [] rfl ?_
      exact B_X5_alike_149 C hR hr h R  hf
    · have hf := bb_t hf hc2
      refine z_iload_n (pc := 143) (i := 3) C 3 dX5_alike_143 rfl rfl ?_
      refine z_goto (pc := 144) C 149 dX5_alike_144 (by decide) ?_
      refine z_lv [] rfl ?_
      exact B_X5_alike_149 C hR hr h R  hf
  · have hf := bb_e hf hc1
    refine z_iload (pc := 44) C 5 dX5_alike_44 rfl ?_
    refine z_iconst (pc := 46) C (1 : Int32) dX5_alike_46 (by decide) ?_
    refine z_iadd (pc := 47) C dX5_alike_47 ?_
    refine z_istore (pc := 48) (lv' := [(6, .int (x5 + ((1 : Int32)))), (0, .ref (h 0)), (1, .int x1), (2, .int x2), (3, .int x3), (4, .int x4), (5, .int x5)]) C dX5_alike_48 (by decide) rfl ?_
    refine z_lv [1, 2, 3, 4, 5, 6, 0] rfl ?_
    exact B_X5_alike_50 C hR hr h R hk33 bb_N _ _ _ _ _ _ hf
theorem B_X5_alike_33 {X : bb_X} (C : bb_C X RX5 cX5_alike 8) (hR : bb_r X 2) (hr : X.meth.sig.returnType = (some .int)) (h : Nat → Nat) {z : Int32} {s0 : bb_O} (R : bb_R X (some (.int z)) (wX5 X.cs h s0)) : ∀ (n : Nat) (x1 : Int32) (x2 : Int32) (x3 : Int32) (x4 : Int32) (x5 : Int32), F_X5_alike_33 s0 n x1 x2 x3 x4 x5 = some z → bb_Z X 8 (wX5 X.cs h s0) 33 [(0, .ref (h 0)), (1, .int x1), (2, .int x2), (3, .int x3), (4, .int x4), (5, .int x5)] [] := by
  intro n
  induction n with
  | zero =>
    intro x1 x2 x3 x4 x5 hf
    cases hf
  | succ n ih =>
    intro x1 x2 x3 x4 x5 hf
    exact A_X5_alike_33 C hR hr h R  ih hf
noncomputable def F_X5_alike_0 (s0 : bb_O) (x1 : Int32) (x2 : Int32) : Option Int32 := (F_X5_in_0 (x1.toInt64) ((0 : Int64)) ((6 : Int64))).bind (fun q1 => if q1 = 0 then (F_X5_alike_22 s0) else ((F_X5_in_0 (x2.toInt64) ((0 : Int64)) ((1 : Int64))).bind (fun q3 => if q3 = 0 then (F_X5_alike_22 s0) else (F_X5_alike_33 s0 bb_N x1 x2 ((0 : Int32)) ((-4 : Int32)) ((0 : Int32))))))
set_option maxHeartbeats 4000000 in
set_option maxRecDepth 100000 in
theorem B_X5_alike_0 {X : bb_X} (C : bb_C X RX5 cX5_alike 8) (hR : bb_r X 2) (hr : X.meth.sig.returnType = (some .int)) (h : Nat → Nat) {z : Int32} {s0 : bb_O} (R : bb_R X (some (.int z)) (wX5 X.cs h s0)) {x1 : Int32} {x2 : Int32} (hf : F_X5_alike_0 s0 x1 x2 = some z) : bb_Z X 8 (wX5 X.cs h s0) 0 [(0, .ref (h 0)), (1, .int x1), (2, .int x2)] [] := by
  refine z_iload_n (pc := 0) (i := 1) C 1 dX5_alike_0 rfl rfl ?_
  refine z_i2l (pc := 1) C dX5_alike_1 ?_
  refine z_lconst (pc := 2) C (0 : Int64) dX5_alike_2 (by decide) ?_
  refine z_ldc2_w (pc := 3) C bk_X5_91 dX5_alike_3 ?_
  obtain ⟨q1, hq1, hf⟩ := bb_b_some hf
  refine z_callSi (pc := 6) (As := [.long (x1.toInt64), .long ((0 : Int64)), .long ((6 : Int64))]) (rest := []) C (hR.le (by decide)) (c_X5_in hq1) (bb_cut_none _) bv_X5_in bm_X5_49 rfl rfl (Nat.le_of_ble_eq_true rfl) dX5_alike_6 ?_
  refine z_if_eq (pc := 9) C 22 dX5_alike_9 (by decide) (fun hc2 => ?_) (fun hc2 => ?_)
  · have hf := bb_t hf hc2
    refine z_lv [] rfl ?_
    exact B_X5_alike_22 C hR hr h R  hf
  · have hf := bb_e hf hc2
    refine z_iload_n (pc := 12) (i := 2) C 2 dX5_alike_12 rfl rfl ?_
    refine z_i2l (pc := 13) C dX5_alike_13 ?_
    refine z_lconst (pc := 14) C (0 : Int64) dX5_alike_14 (by decide) ?_
    refine z_lconst (pc := 15) C (1 : Int64) dX5_alike_15 (by decide) ?_
    obtain ⟨q3, hq3, hf⟩ := bb_b_some hf
    refine z_callSi (pc := 16) (As := [.long (x2.toInt64), .long ((0 : Int64)), .long ((1 : Int64))]) (rest := []) C (hR.le (by decide)) (c_X5_in hq3) (bb_cut_none _) bv_X5_in bm_X5_49 rfl rfl (Nat.le_of_ble_eq_true rfl) dX5_alike_16 ?_
    refine z_if_ne (pc := 19) C 24 dX5_alike_19 (by decide) (fun hc4 => ?_) (fun hc4 => ?_)
    · have hf := bb_e hf hc4
      refine z_iconst (pc := 24) C (0 : Int32) dX5_alike_24 (by decide) ?_
      refine z_istore_n (pc := 25) (i := 3) (lv' := [(3, .int ((0 : Int32))), (0, .ref (h 0)), (1, .int x1), (2, .int x2)]) C dX5_alike_25 rfl (by decide) rfl ?_
      refine z_bipush (pc := 26) C (-4 : Int32) dX5_alike_26 (by decide) ?_
      refine z_istore (pc := 28) (lv' := [(4, .int ((-4 : Int32))), (3, .int ((0 : Int32))), (0, .ref (h 0)), (1, .int x1), (2, .int x2)]) C dX5_alike_28 (by decide) rfl ?_
      refine z_iconst (pc := 30) C (0 : Int32) dX5_alike_30 (by decide) ?_
      refine z_istore (pc := 31) (lv' := [(5, .int ((0 : Int32))), (4, .int ((-4 : Int32))), (3, .int ((0 : Int32))), (0, .ref (h 0)), (1, .int x1), (2, .int x2)]) C dX5_alike_31 (by decide) rfl ?_
      refine z_lv [3, 4, 5, 2, 1, 0] rfl ?_
      exact B_X5_alike_33 C hR hr h R  bb_N _ _ _ _ _ hf
    · have hf := bb_t hf hc4
      refine z_lv [] rfl ?_
      exact B_X5_alike_22 C hR hr h R  hf
theorem c_X5_alike {l : Launch} {D : va_G} {cs : Nat → ClassId} (h : Nat → Nat) {s0 : bb_O} {x1 : Int32} {x2 : Int32} {z : Int32} (hf : F_X5_alike_0 s0 x1 x2 = some z) : bb_M l yX5_alike cX5_alike 8 (some .int) 2 D cs [.ref (h 0), .int x1, .int x2] (some (.int z)) (wX5 cs h s0) (wX5 cs h s0) := bb_mg (by decide) rfl (Nat.le_of_ble_eq_true rfl) rfl (fun X hl hD hcs C hR hr R => by
  subst hl
  subst hD
  subst hcs
  exact B_X5_alike_0 C hR hr h R hf)
/-! X5_turned: writes, level 7 -/
noncomputable def F_X5_turned_18 (s0 : bb_O) : Option (Int32 × bb_O) := some ((-1 : Int32), s0)
set_option maxHeartbeats 4000000 in
set_option maxRecDepth 100000 in
theorem B_X5_turned_18 {X : bb_X} (C : bb_C X RX5 cX5_turned 7) (hR : bb_r X 7) (hr : X.meth.sig.returnType = (some .int)) (h : Nat → Nat) {z : (Int32 × bb_O)} (R : bb_R X (some (.int z.1)) (wX5 X.cs h z.2)) {s0 : bb_O} (hf : F_X5_turned_18 s0 = some z) : bb_Z X 7 (wX5 X.cs h s0) 18 [] [] := by
  refine z_iconst (pc := 18) C (-1 : Int32) dX5_turned_18 (by decide) ?_
  obtain rfl := Option.some.inj hf
  exact z_iret (pc := 19) C hr R dX5_turned_19
noncomputable def F_X5_turned_121 (s0 : bb_O) (y0 : Int32) : Option (Int32 × bb_O) := some (y0, s0)
set_option maxHeartbeats 4000000 in
set_option maxRecDepth 100000 in
theorem B_X5_turned_121 {X : bb_X} (C : bb_C X RX5 cX5_turned 7) (hR : bb_r X 7) (hr : X.meth.sig.returnType = (some .int)) (h : Nat → Nat) {z : (Int32 × bb_O)} (R : bb_R X (some (.int z.1)) (wX5 X.cs h z.2)) {s0 : bb_O} {y0 : Int32} (hf : F_X5_turned_121 s0 y0 = some z) : bb_Z X 7 (wX5 X.cs h s0) 121 [] [.int y0] := by
  obtain rfl := Option.some.inj hf
  exact z_iret (pc := 121) C hr R dX5_turned_121
noncomputable def F_X5_turned_103 (k33 : bb_O → Int32 → Int32 → Int32 → Int32 → Int32 → Option (Int32 × bb_O)) (s0 : bb_O) (x1 : Int32) (x2 : Int32) (x4 : Int32) (x5 : Int32) (y0 : Int32) (y1 : Int32) : Option (Int32 × bb_O) := k33 s0 x1 x2 (y1 + y0) x4 (x5 + 1)
set_option maxHeartbeats 4000000 in
set_option maxRecDepth 100000 in
theorem B_X5_turned_103 {X : bb_X} (C : bb_C X RX5 cX5_turned 7) (hR : bb_r X 7) (hr : X.meth.sig.returnType = (some .int)) (h : Nat → Nat) {z : (Int32 × bb_O)} (R : bb_R X (some (.int z.1)) (wX5 X.cs h z.2)) {k33 : bb_O → Int32 → Int32 → Int32 → Int32 → Int32 → Option (Int32 × bb_O)} (hk33 : ∀ (s0 : bb_O) (x1 : Int32) (x2 : Int32) (x3 : Int32) (x4 : Int32) (x5 : Int32), k33 s0 x1 x2 x3 x4 x5 = some z → bb_Z X 7 (wX5 X.cs h s0) 33 [(0, .ref (h 0)), (1, .int x1), (2, .int x2), (3, .int x3), (4, .int x4), (5, .int x5)] []) {s0 : bb_O} {x1 : Int32} {x2 : Int32} {x4 : Int32} {x5 : Int32} {y0 : Int32} {y1 : Int32} (hf : F_X5_turned_103 k33 s0 x1 x2 x4 x5 y0 y1 = some z) : bb_Z X 7 (wX5 X.cs h s0) 103 [(0, .ref (h 0)), (1, .int x1), (2, .int x2), (4, .int x4), (5, .int x5)] [.int y0, .int y1] := by
  refine z_iadd (pc := 103) C dX5_turned_103 ?_
  refine z_istore_n (pc := 104) (i := 3) (lv' := [(3, .int (y1 + y0)), (0, .ref (h 0)), (1, .int x1), (2, .int x2), (4, .int x4), (5, .int x5)]) C dX5_turned_104 rfl (by decide) rfl ?_
  refine z_iinc (pc := 105) (lv' := [(5, .int (x5 + 1)), (3, .int (y1 + y0)), (0, .ref (h 0)), (1, .int x1), (2, .int x2), (4, .int x4)]) C (x5 + 1) 5 dX5_turned_105 rfl rfl (by decide) rfl ?_
  refine z_goto (pc := 108) C 33 dX5_turned_108 (by decide) ?_
  refine z_lv [2, 3, 4, 1, 5, 0] rfl ?_
  exact hk33 _ _ _ _ _ _ hf
noncomputable def F_X5_turned_90 (k33 : bb_O → Int32 → Int32 → Int32 → Int32 → Int32 → Option (Int32 × bb_O)) (s0 : bb_O) (x1 : Int32) (x2 : Int32) (x3 : Int32) (x5 : Int32) (x6 : Int32) (y0 : Int32) : Option (Int32 × bb_O) := if x6 = 0 then (F_X5_turned_103 k33 s0 x1 x2 y0 x5 ((0 : Int32)) x3) else (F_X5_turned_103 k33 s0 x1 x2 y0 x5 ((1 : Int32)) x3)
set_option maxHeartbeats 4000000 in
set_option maxRecDepth 100000 in
theorem B_X5_turned_90 {X : bb_X} (C : bb_C X RX5 cX5_turned 7) (hR : bb_r X 7) (hr : X.meth.sig.returnType = (some .int)) (h : Nat → Nat) {z : (Int32 × bb_O)} (R : bb_R X (some (.int z.1)) (wX5 X.cs h z.2)) {k33 : bb_O → Int32 → Int32 → Int32 → Int32 → Int32 → Option (Int32 × bb_O)} (hk33 : ∀ (s0 : bb_O) (x1 : Int32) (x2 : Int32) (x3 : Int32) (x4 : Int32) (x5 : Int32), k33 s0 x1 x2 x3 x4 x5 = some z → bb_Z X 7 (wX5 X.cs h s0) 33 [(0, .ref (h 0)), (1, .int x1), (2, .int x2), (3, .int x3), (4, .int x4), (5, .int x5)] []) {s0 : bb_O} {x1 : Int32} {x2 : Int32} {x3 : Int32} {x5 : Int32} {x6 : Int32} {y0 : Int32} (hf : F_X5_turned_90 k33 s0 x1 x2 x3 x5 x6 y0 = some z) : bb_Z X 7 (wX5 X.cs h s0) 90 [(0, .ref (h 0)), (1, .int x1), (2, .int x2), (3, .int x3), (5, .int x5), (6, .int x6)] [.int y0] := by
  refine z_istore (pc := 90) (lv' := [(4, .int y0), (0, .ref (h 0)), (1, .int x1), (2, .int x2), (3, .int x3), (5, .int x5), (6, .int x6)]) C dX5_turned_90 (by decide) rfl ?_
  refine z_iload_n (pc := 92) (i := 3) C 4 dX5_turned_92 rfl rfl ?_
  refine z_iload (pc := 93) C 6 dX5_turned_93 rfl ?_
  refine z_if_eq (pc := 95) C 102 dX5_turned_95 (by decide) (fun hc1 => ?_) (fun hc1 => ?_)
  · have hf := bb_t hf hc1
    refine z_iconst (pc := 102) C (0 : Int32) dX5_turned_102 (by decide) ?_
    refine z_lv [1, 2, 3, 0, 5] rfl ?_
    exact B_X5_turned_103 C hR hr h R hk33 hf
  · have hf := bb_e hf hc1
    refine z_iconst (pc := 98) C (1 : Int32) dX5_turned_98 (by decide) ?_
    refine z_goto (pc := 99) C 103 dX5_turned_99 (by decide) ?_
    refine z_lv [1, 2, 3, 0, 5] rfl ?_
    exact B_X5_turned_103 C hR hr h R hk33 hf
noncomputable def F_X5_turned_88 (k33 : bb_O → Int32 → Int32 → Int32 → Int32 → Int32 → Option (Int32 × bb_O)) (s0 : bb_O) (x1 : Int32) (x2 : Int32) (x3 : Int32) (x4 : Int32) (x5 : Int32) (x6 : Int32) : Option (Int32 × bb_O) := F_X5_turned_90 k33 s0 x1 x2 x3 x5 x6 x4
set_option maxHeartbeats 4000000 in
set_option maxRecDepth 100000 in
theorem B_X5_turned_88 {X : bb_X} (C : bb_C X RX5 cX5_turned 7) (hR : bb_r X 7) (hr : X.meth.sig.returnType = (some .int)) (h : Nat → Nat) {z : (Int32 × bb_O)} (R : bb_R X (some (.int z.1)) (wX5 X.cs h z.2)) {k33 : bb_O → Int32 → Int32 → Int32 → Int32 → Int32 → Option (Int32 × bb_O)} (hk33 : ∀ (s0 : bb_O) (x1 : Int32) (x2 : Int32) (x3 : Int32) (x4 : Int32) (x5 : Int32), k33 s0 x1 x2 x3 x4 x5 = some z → bb_Z X 7 (wX5 X.cs h s0) 33 [(0, .ref (h 0)), (1, .int x1), (2, .int x2), (3, .int x3), (4, .int x4), (5, .int x5)] []) {s0 : bb_O} {x1 : Int32} {x2 : Int32} {x3 : Int32} {x4 : Int32} {x5 : Int32} {x6 : Int32} (hf : F_X5_turned_88 k33 s0 x1 x2 x3 x4 x5 x6 = some z) : bb_Z X 7 (wX5 X.cs h s0) 88 [(0, .ref (h 0)), (1, .int x1), (2, .int x2), (3, .int x3), (4, .int x4), (5, .int x5), (6, .int x6)] [] := by
  refine z_iload (pc := 88) C 4 dX5_turned_88 rfl ?_
  refine z_lv [0, 1, 2, 3, 5, 6] rfl ?_
  exact B_X5_turned_90 C hR hr h R hk33 hf
noncomputable def F_X5_turned_72 (k33 : bb_O → Int32 → Int32 → Int32 → Int32 → Int32 → Option (Int32 × bb_O)) (s0 : bb_O) (x1 : Int32) (x2 : Int32) (x3 : Int32) (x4 : Int32) (x5 : Int32) (y0 : Int32) : Option (Int32 × bb_O) := if y0 = 0 then (F_X5_turned_88 k33 s0 x1 x2 x3 x4 x5 y0) else (if x3 = 0 then (F_X5_turned_90 k33 s0 x1 x2 x3 x5 y0 x5) else (F_X5_turned_88 k33 s0 x1 x2 x3 x4 x5 y0))
set_option maxHeartbeats 4000000 in
set_option maxRecDepth 100000 in
theorem B_X5_turned_72 {X : bb_X} (C : bb_C X RX5 cX5_turned 7) (hR : bb_r X 7) (hr : X.meth.sig.returnType = (some .int)) (h : Nat → Nat) {z : (Int32 × bb_O)} (R : bb_R X (some (.int z.1)) (wX5 X.cs h z.2)) {k33 : bb_O → Int32 → Int32 → Int32 → Int32 → Int32 → Option (Int32 × bb_O)} (hk33 : ∀ (s0 : bb_O) (x1 : Int32) (x2 : Int32) (x3 : Int32) (x4 : Int32) (x5 : Int32), k33 s0 x1 x2 x3 x4 x5 = some z → bb_Z X 7 (wX5 X.cs h s0) 33 [(0, .ref (h 0)), (1, .int x1), (2, .int x2), (3, .int x3), (4, .int x4), (5, .int x5)] []) {s0 : bb_O} {x1 : Int32} {x2 : Int32} {x3 : Int32} {x4 : Int32} {x5 : Int32} {y0 : Int32} (hf : F_X5_turned_72 k33 s0 x1 x2 x3 x4 x5 y0 = some z) : bb_Z X 7 (wX5 X.cs h s0) 72 [(0, .ref (h 0)), (1, .int x1), (2, .int x2), (3, .int x3), (4, .int x4), (5, .int x5)] [.int y0] := by
  refine z_istore (pc := 72) (lv' := [(6, .int y0), (0, .ref (h 0)), (1, .int x1), (2, .int x2), (3, .int x3), (4, .int x4), (5, .int x5)]) C dX5_turned_72 (by decide) rfl ?_
  refine z_iload (pc := 74) C 0 dX5_turned_74 rfl ?_
  refine z_if_eq (pc := 76) C 88 dX5_turned_76 (by decide) (fun hc1 => ?_) (fun hc1 => ?_)
  · have hf := bb_t hf hc1
    refine z_lv [1, 2, 3, 4, 5, 6, 0] rfl ?_
    exact B_X5_turned_88 C hR hr h R hk33 hf
  · have hf := bb_e hf hc1
    refine z_iload_n (pc := 79) (i := 3) C 4 dX5_turned_79 rfl rfl ?_
    refine z_if_ne (pc := 80) C 88 dX5_turned_80 (by decide) (fun hc2 => ?_) (fun hc2 => ?_)
    · have hf := bb_e hf hc2
      refine z_lv [1, 2, 3, 4, 5, 6, 0] rfl ?_
      exact B_X5_turned_88 C hR hr h R hk33 hf
    · have hf := bb_t hf hc2
      refine z_iload (pc := 83) C 6 dX5_turned_83 rfl ?_
      refine z_goto (pc := 85) C 90 dX5_turned_85 (by decide) ?_
      refine z_lv [1, 2, 3, 4, 6, 0] rfl ?_
      exact B_X5_turned_90 C hR hr h R hk33 hf
noncomputable def F_X5_turned_71 (k33 : bb_O → Int32 → Int32 → Int32 → Int32 → Int32 → Option (Int32 × bb_O)) (s0 : bb_O) (x1 : Int32) (x2 : Int32) (x3 : Int32) (x4 : Int32) (x5 : Int32) : Option (Int32 × bb_O) := F_X5_turned_72 k33 s0 x1 x2 x3 x4 x5 ((0 : Int32))
set_option maxHeartbeats 4000000 in
set_option maxRecDepth 100000 in
theorem B_X5_turned_71 {X : bb_X} (C : bb_C X RX5 cX5_turned 7) (hR : bb_r X 7) (hr : X.meth.sig.returnType = (some .int)) (h : Nat → Nat) {z : (Int32 × bb_O)} (R : bb_R X (some (.int z.1)) (wX5 X.cs h z.2)) {k33 : bb_O → Int32 → Int32 → Int32 → Int32 → Int32 → Option (Int32 × bb_O)} (hk33 : ∀ (s0 : bb_O) (x1 : Int32) (x2 : Int32) (x3 : Int32) (x4 : Int32) (x5 : Int32), k33 s0 x1 x2 x3 x4 x5 = some z → bb_Z X 7 (wX5 X.cs h s0) 33 [(0, .ref (h 0)), (1, .int x1), (2, .int x2), (3, .int x3), (4, .int x4), (5, .int x5)] []) {s0 : bb_O} {x1 : Int32} {x2 : Int32} {x3 : Int32} {x4 : Int32} {x5 : Int32} (hf : F_X5_turned_71 k33 s0 x1 x2 x3 x4 x5 = some z) : bb_Z X 7 (wX5 X.cs h s0) 71 [(0, .ref (h 0)), (1, .int x1), (2, .int x2), (3, .int x3), (4, .int x4), (5, .int x5)] [] := by
  refine z_iconst (pc := 71) C (0 : Int32) dX5_turned_71 (by decide) ?_
  exact B_X5_turned_72 C hR hr h R hk33 hf
noncomputable def F_X5_turned_59 (k33 : bb_O → Int32 → Int32 → Int32 → Int32 → Int32 → Option (Int32 × bb_O)) (s0 : bb_O) (x1 : Int32) (x2 : Int32) (x3 : Int32) (x4 : Int32) (x5 : Int32) : Option (Int32 × bb_O) := if (s0.1 1) = x1 then (F_X5_turned_72 k33 s0 x1 x2 x3 x4 x5 ((1 : Int32))) else (F_X5_turned_71 k33 s0 x1 x2 x3 x4 x5)
set_option maxHeartbeats 4000000 in
set_option maxRecDepth 100000 in
theorem B_X5_turned_59 {X : bb_X} (C : bb_C X RX5 cX5_turned 7) (hR : bb_r X 7) (hr : X.meth.sig.returnType = (some .int)) (h : Nat → Nat) {z : (Int32 × bb_O)} (R : bb_R X (some (.int z.1)) (wX5 X.cs h z.2)) {k33 : bb_O → Int32 → Int32 → Int32 → Int32 → Int32 → Option (Int32 × bb_O)} (hk33 : ∀ (s0 : bb_O) (x1 : Int32) (x2 : Int32) (x3 : Int32) (x4 : Int32) (x5 : Int32), k33 s0 x1 x2 x3 x4 x5 = some z → bb_Z X 7 (wX5 X.cs h s0) 33 [(0, .ref (h 0)), (1, .int x1), (2, .int x2), (3, .int x3), (4, .int x4), (5, .int x5)] []) {s0 : bb_O} {x1 : Int32} {x2 : Int32} {x3 : Int32} {x4 : Int32} {x5 : Int32} (hf : F_X5_turned_59 k33 s0 x1 x2 x3 x4 x5 = some z) : bb_Z X 7 (wX5 X.cs h s0) 59 [(0, .ref (h 0)), (1, .int x1), (2, .int x2), (3, .int x3), (4, .int x4), (5, .int x5)] [] := by
  refine z_aload_n (pc := 59) (i := 0) C 0 dX5_turned_59 rfl rfl ?_
  refine z_get (pc := 60) (ci := 5) C (.int (s0.1 1)) bi_X5 rfl 0 1 (by decide) rfl bf_X5_80 rfl rfl dX5_turned_60 ?_
  refine z_iload_n (pc := 63) (i := 1) C 1 dX5_turned_63 rfl rfl ?_
  refine z_icmp_ne (pc := 64) C 71 dX5_turned_64 (by decide) (fun hc1 => ?_) (fun hc1 => ?_)
  · have hf := bb_e hf hc1
    exact B_X5_turned_71 C hR hr h R hk33 hf
  · have hf := bb_t hf hc1
    refine z_iconst (pc := 67) C (1 : Int32) dX5_turned_67 (by decide) ?_
    refine z_goto (pc := 68) C 72 dX5_turned_68 (by decide) ?_
    exact B_X5_turned_72 C hR hr h R hk33 hf
noncomputable def F_X5_turned_50 (k33 : bb_O → Int32 → Int32 → Int32 → Int32 → Int32 → Option (Int32 × bb_O)) (s0 : bb_O) (x1 : Int32) (x2 : Int32) (x3 : Int32) (x4 : Int32) (x5 : Int32) : Option (Int32 × bb_O) := (F_X5_nextBehind_0 s0).bind (fun q1 => if ((61 : Int32)) ≤ q1.1 then (F_X5_turned_71 k33 q1.2 x1 x2 x3 x4 x5) else (F_X5_turned_59 k33 q1.2 x1 x2 x3 x4 x5))
set_option maxHeartbeats 4000000 in
set_option maxRecDepth 100000 in
theorem B_X5_turned_50 {X : bb_X} (C : bb_C X RX5 cX5_turned 7) (hR : bb_r X 7) (hr : X.meth.sig.returnType = (some .int)) (h : Nat → Nat) {z : (Int32 × bb_O)} (R : bb_R X (some (.int z.1)) (wX5 X.cs h z.2)) {k33 : bb_O → Int32 → Int32 → Int32 → Int32 → Int32 → Option (Int32 × bb_O)} (hk33 : ∀ (s0 : bb_O) (x1 : Int32) (x2 : Int32) (x3 : Int32) (x4 : Int32) (x5 : Int32), k33 s0 x1 x2 x3 x4 x5 = some z → bb_Z X 7 (wX5 X.cs h s0) 33 [(0, .ref (h 0)), (1, .int x1), (2, .int x2), (3, .int x3), (4, .int x4), (5, .int x5)] []) {s0 : bb_O} {x1 : Int32} {x2 : Int32} {x3 : Int32} {x4 : Int32} {x5 : Int32} (hf : F_X5_turned_50 k33 s0 x1 x2 x3 x4 x5 = some z) : bb_Z X 7 (wX5 X.cs h s0) 50 [(0, .ref (h 0)), (1, .int x1), (2, .int x2), (3, .int x3), (4, .int x4), (5, .int x5)] [] := by
  refine z_aload_n (pc := 50) (i := 0) C 0 dX5_turned_50 rfl rfl ?_
  obtain ⟨q1, hq1, hf⟩ := bb_b_some hf
  refine z_callVi (pc := 51) (ci := 5) (q0 := 0) (As := []) (rest := []) (ws' := wX5 X.cs h q1.2) C (hR.le (by decide)) (c_X5_nextBehind h hq1) (bb_cut_self _ _) bv_X5_nextBehind bm_X5_179 rfl rfl rfl rfl (Nat.le_of_ble_eq_true rfl) dX5_turned_51 ?_
  refine z_bipush (pc := 54) C (61 : Int32) dX5_turned_54 (by decide) ?_
  refine z_icmp_ge (pc := 56) C 71 dX5_turned_56 (by decide) (fun hc2 => ?_) (fun hc2 => ?_)
  · have hf := bb_t hf hc2
    exact B_X5_turned_71 C hR hr h R hk33 hf
  · have hf := bb_e hf hc2
    exact B_X5_turned_59 C hR hr h R hk33 hf
noncomputable def G_X5_turned_33 (k33 : bb_O → Int32 → Int32 → Int32 → Int32 → Int32 → Option (Int32 × bb_O)) (s0 : bb_O) (x1 : Int32) (x2 : Int32) (x3 : Int32) (x4 : Int32) (x5 : Int32) : Option (Int32 × bb_O) := (F_X5_cells_0 s0).bind (fun q1 => if q1 ≤ x5 then (if x2 = 0 then (F_X5_turned_121 s0 x3) else (F_X5_turned_121 s0 x4)) else (F_X5_turned_50 k33 (bb_sA s0 0 (upd (s0.2.1 0) 3 x5)) x1 x2 x3 x4 x5))
noncomputable def F_X5_turned_33  : Nat → bb_O → Int32 → Int32 → Int32 → Int32 → Int32 → Option (Int32 × bb_O)
  | 0, _, _, _, _, _, _ => none
  | n + 1, s0, x1, x2, x3, x4, x5 => G_X5_turned_33  (F_X5_turned_33  n) s0 x1 x2 x3 x4 x5
set_option maxHeartbeats 4000000 in
set_option maxRecDepth 100000 in
theorem A_X5_turned_33 {X : bb_X} (C : bb_C X RX5 cX5_turned 7) (hR : bb_r X 7) (hr : X.meth.sig.returnType = (some .int)) (h : Nat → Nat) {z : (Int32 × bb_O)} (R : bb_R X (some (.int z.1)) (wX5 X.cs h z.2)) {k33 : bb_O → Int32 → Int32 → Int32 → Int32 → Int32 → Option (Int32 × bb_O)} (hk33 : ∀ (s0 : bb_O) (x1 : Int32) (x2 : Int32) (x3 : Int32) (x4 : Int32) (x5 : Int32), k33 s0 x1 x2 x3 x4 x5 = some z → bb_Z X 7 (wX5 X.cs h s0) 33 [(0, .ref (h 0)), (1, .int x1), (2, .int x2), (3, .int x3), (4, .int x4), (5, .int x5)] []) {s0 : bb_O} {x1 : Int32} {x2 : Int32} {x3 : Int32} {x4 : Int32} {x5 : Int32} (hf : G_X5_turned_33 k33 s0 x1 x2 x3 x4 x5 = some z) : bb_Z X 7 (wX5 X.cs h s0) 33 [(0, .ref (h 0)), (1, .int x1), (2, .int x2), (3, .int x3), (4, .int x4), (5, .int x5)] [] := by
  refine z_iload (pc := 33) C 5 dX5_turned_33 rfl ?_
  refine z_aload_n (pc := 35) (i := 0) C 0 dX5_turned_35 rfl rfl ?_
  obtain ⟨q1, hq1, hf⟩ := bb_b_some hf
  refine z_callVi (pc := 36) (ci := 5) (q0 := 0) (As := []) (rest := [.int x5]) C (hR.le (by decide)) (c_X5_cells h hq1) (bb_cut_self _ _) bv_X5_cells bm_X5_93 rfl rfl rfl rfl (Nat.le_of_ble_eq_true rfl) dX5_turned_36 ?_
  refine z_icmp_ge (pc := 39) C 111 dX5_turned_39 (by decide) (fun hc2 => ?_) (fun hc2 => ?_)
  · have hf := bb_t hf hc2
    refine z_iload_n (pc := 111) (i := 2) C 2 dX5_turned_111 rfl rfl ?_
    refine z_if_ne (pc := 112) C 119 dX5_turned_112 (by decide) (fun hc3 => ?_) (fun hc3 => ?_)
    · have hf := bb_e hf hc3
      refine z_iload (pc := 119) C 4 dX5_turned_119 rfl ?_
      refine z_lv [] rfl ?_
      exact B_X5_turned_121 C hR hr h R  hf
    · have hf := bb_t hf hc3
      refine z_iload_n (pc := 115) (i := 3) C 3 dX5_turned_115 rfl rfl ?_
      refine z_goto (pc := 116) C 121 dX5_turned_116 (by decide) ?_
      refine z_lv [] rfl ?_
      exact B_X5_turned_121 C hR hr h R  hf
  · have hf := bb_e hf hc2
    refine z_aload_n (pc := 42) (i := 0) C 0 dX5_turned_42 rfl rfl ?_
    refine z_get (pc := 43) (ci := 5) C (.ref (h 1)) bi_X5 rfl 0 0 (by decide) rfl bf_X5_7 rfl rfl dX5_turned_43 ?_
    refine z_iconst (pc := 46) C (3 : Int32) dX5_turned_46 (by decide) ?_
    refine z_iload (pc := 47) C 5 dX5_turned_47 rfl ?_
    refine z_iast (pc := 49) (ws' := wX5 X.cs h (bb_sA s0 0 (upd (s0.2.1 0) 3 x5))) C 1 0 (3) rfl rfl (show ¬ ((3 : Int32) < 0 ∨ 39 ≤ (3 : Int32).toNatClampNeg) by decide) (by decide) rfl dX5_turned_49 ?_
    exact B_X5_turned_50 C hR hr h R hk33 hf
theorem B_X5_turned_33 {X : bb_X} (C : bb_C X RX5 cX5_turned 7) (hR : bb_r X 7) (hr : X.meth.sig.returnType = (some .int)) (h : Nat → Nat) {z : (Int32 × bb_O)} (R : bb_R X (some (.int z.1)) (wX5 X.cs h z.2)) : ∀ (n : Nat) (s0 : bb_O) (x1 : Int32) (x2 : Int32) (x3 : Int32) (x4 : Int32) (x5 : Int32), F_X5_turned_33  n s0 x1 x2 x3 x4 x5 = some z → bb_Z X 7 (wX5 X.cs h s0) 33 [(0, .ref (h 0)), (1, .int x1), (2, .int x2), (3, .int x3), (4, .int x4), (5, .int x5)] [] := by
  intro n
  induction n with
  | zero =>
    intro s0 x1 x2 x3 x4 x5 hf
    cases hf
  | succ n ih =>
    intro s0 x1 x2 x3 x4 x5 hf
    exact A_X5_turned_33 C hR hr h R  ih hf
noncomputable def F_X5_turned_0 (s0 : bb_O) (x1 : Int32) (x2 : Int32) : Option (Int32 × bb_O) := (F_X5_isPerson_0 s0 x1).bind (fun q1 => if q1 = 0 then (F_X5_turned_18 s0) else ((F_X5_in_0 (x2.toInt64) ((0 : Int64)) ((1 : Int64))).bind (fun q3 => if q3 = 0 then (F_X5_turned_18 s0) else ((F_X5_asides_0 s0).bind (fun q5 => F_X5_turned_33 bb_N q5 x1 x2 ((0 : Int32)) ((-4 : Int32)) ((0 : Int32)))))))
set_option maxHeartbeats 4000000 in
set_option maxRecDepth 100000 in
theorem B_X5_turned_0 {X : bb_X} (C : bb_C X RX5 cX5_turned 7) (hR : bb_r X 7) (hr : X.meth.sig.returnType = (some .int)) (h : Nat → Nat) {z : (Int32 × bb_O)} (R : bb_R X (some (.int z.1)) (wX5 X.cs h z.2)) {s0 : bb_O} {x1 : Int32} {x2 : Int32} (hf : F_X5_turned_0 s0 x1 x2 = some z) : bb_Z X 7 (wX5 X.cs h s0) 0 [(0, .ref (h 0)), (1, .int x1), (2, .int x2)] [] := by
  refine z_aload_n (pc := 0) (i := 0) C 0 dX5_turned_0 rfl rfl ?_
  refine z_iload_n (pc := 1) (i := 1) C 1 dX5_turned_1 rfl rfl ?_
  obtain ⟨q1, hq1, hf⟩ := bb_b_some hf
  refine z_callVi (pc := 2) (ci := 5) (q0 := 0) (As := [.int x1]) (rest := []) C (hR.le (by decide)) (c_X5_isPerson h hq1) (bb_cut_self _ _) bv_X5_isPerson bm_X5_107 rfl rfl rfl rfl (Nat.le_of_ble_eq_true rfl) dX5_turned_2 ?_
  refine z_if_eq (pc := 5) C 18 dX5_turned_5 (by decide) (fun hc2 => ?_) (fun hc2 => ?_)
  · have hf := bb_t hf hc2
    refine z_lv [] rfl ?_
    exact B_X5_turned_18 C hR hr h R  hf
  · have hf := bb_e hf hc2
    refine z_iload_n (pc := 8) (i := 2) C 2 dX5_turned_8 rfl rfl ?_
    refine z_i2l (pc := 9) C dX5_turned_9 ?_
    refine z_lconst (pc := 10) C (0 : Int64) dX5_turned_10 (by decide) ?_
    refine z_lconst (pc := 11) C (1 : Int64) dX5_turned_11 (by decide) ?_
    obtain ⟨q3, hq3, hf⟩ := bb_b_some hf
    refine z_callSi (pc := 12) (As := [.long (x2.toInt64), .long ((0 : Int64)), .long ((1 : Int64))]) (rest := []) C (hR.le (by decide)) (c_X5_in hq3) (bb_cut_none _) bv_X5_in bm_X5_49 rfl rfl (Nat.le_of_ble_eq_true rfl) dX5_turned_12 ?_
    refine z_if_ne (pc := 15) C 20 dX5_turned_15 (by decide) (fun hc4 => ?_) (fun hc4 => ?_)
    · have hf := bb_e hf hc4
      refine z_iconst (pc := 20) C (0 : Int32) dX5_turned_20 (by decide) ?_
      refine z_istore_n (pc := 21) (i := 3) (lv' := [(3, .int ((0 : Int32))), (0, .ref (h 0)), (1, .int x1), (2, .int x2)]) C dX5_turned_21 rfl (by decide) rfl ?_
      refine z_bipush (pc := 22) C (-4 : Int32) dX5_turned_22 (by decide) ?_
      refine z_istore (pc := 24) (lv' := [(4, .int ((-4 : Int32))), (3, .int ((0 : Int32))), (0, .ref (h 0)), (1, .int x1), (2, .int x2)]) C dX5_turned_24 (by decide) rfl ?_
      refine z_aload_n (pc := 26) (i := 0) C 2 dX5_turned_26 rfl rfl ?_
      obtain ⟨q5, hq5, hf⟩ := bb_b_some hf
      refine z_callVv (pc := 27) (ci := 5) (q0 := 0) (As := []) (rest := []) (ws' := wX5 X.cs h q5) C (hR.le (by decide)) (c_X5_asides h hq5) (bb_cut_self _ _) bv_X5_asides bm_X5_173 rfl rfl rfl rfl (Nat.le_of_ble_eq_true rfl) dX5_turned_27 ?_
      refine z_iconst (pc := 30) C (0 : Int32) dX5_turned_30 (by decide) ?_
      refine z_istore (pc := 31) (lv' := [(5, .int ((0 : Int32))), (4, .int ((-4 : Int32))), (3, .int ((0 : Int32))), (0, .ref (h 0)), (1, .int x1), (2, .int x2)]) C dX5_turned_31 (by decide) rfl ?_
      refine z_lv [3, 4, 5, 2, 1, 0] rfl ?_
      exact B_X5_turned_33 C hR hr h R  bb_N _ _ _ _ _ _ hf
    · have hf := bb_t hf hc4
      refine z_lv [] rfl ?_
      exact B_X5_turned_18 C hR hr h R  hf
theorem c_X5_turned {l : Launch} {D : va_G} {cs : Nat → ClassId} (h : Nat → Nat) {s0 : bb_O} {x1 : Int32} {x2 : Int32} {z : (Int32 × bb_O)} (hf : F_X5_turned_0 s0 x1 x2 = some z) : bb_M l yX5_turned cX5_turned 7 (some .int) 7 D cs [.ref (h 0), .int x1, .int x2] (some (.int z.1)) (wX5 cs h s0) (wX5 cs h z.2) := bb_mg (by decide) rfl (Nat.le_of_ble_eq_true rfl) rfl (fun X hl hD hcs C hR hr R => by
  subst hl
  subst hD
  subst hcs
  exact B_X5_turned_0 C hR hr h R hf)
/-! X5_luck: reads, level 5 -/
noncomputable def F_X5_luck_30 (s0 : bb_O) : Option Int32 := some ((-1 : Int32))
set_option maxHeartbeats 4000000 in
set_option maxRecDepth 100000 in
theorem B_X5_luck_30 {X : bb_X} (C : bb_C X RX5 cX5_luck 9) (hR : bb_r X 5) (hr : X.meth.sig.returnType = (some .int)) (h : Nat → Nat) {z : Int32} {s0 : bb_O} (R : bb_R X (some (.int z)) (wX5 X.cs h s0))  (hf : F_X5_luck_30 s0 = some z) : bb_Z X 9 (wX5 X.cs h s0) 30 [] [] := by
  refine z_iconst (pc := 30) C (-1 : Int32) dX5_luck_30 (by decide) ?_
  obtain rfl := Option.some.inj hf
  exact z_iret (pc := 31) C hr R dX5_luck_31
noncomputable def F_X5_luck_183 (s0 : bb_O) (y0 : Int32) : Option Int32 := some y0
set_option maxHeartbeats 4000000 in
set_option maxRecDepth 100000 in
theorem B_X5_luck_183 {X : bb_X} (C : bb_C X RX5 cX5_luck 9) (hR : bb_r X 5) (hr : X.meth.sig.returnType = (some .int)) (h : Nat → Nat) {z : Int32} {s0 : bb_O} (R : bb_R X (some (.int z)) (wX5 X.cs h s0)) {y0 : Int32} (hf : F_X5_luck_183 s0 y0 = some z) : bb_Z X 9 (wX5 X.cs h s0) 183 [] [.int y0] := by
  obtain rfl := Option.some.inj hf
  exact z_iret (pc := 183) C hr R dX5_luck_183
noncomputable def G_X5_luck_143 (s0 : bb_O) (k143 : Int32 → Int32 → Int32 → Int32 → Int32 → Option Int32) (x3 : Int32) (x4 : Int32) (x5 : Int32) (x6 : Int32) (x7 : Int32) : Option Int32 := if x7 = 0 then (if x3 = 0 then (bb_g (¬ x6 = 0) (F_X5_luck_183 s0 (x4 / x6))) else (bb_g (¬ x6 = 0) (F_X5_luck_183 s0 (x5 / x6)))) else (bb_g (¬ x7 = 0) (k143 x3 x4 x5 x7 (x6 % x7)))
noncomputable def F_X5_luck_143 (s0 : bb_O) : Nat → Int32 → Int32 → Int32 → Int32 → Int32 → Option Int32
  | 0, _, _, _, _, _ => none
  | n + 1, x3, x4, x5, x6, x7 => G_X5_luck_143 s0 (F_X5_luck_143 s0 n) x3 x4 x5 x6 x7
set_option maxHeartbeats 4000000 in
set_option maxRecDepth 100000 in
theorem A_X5_luck_143 {X : bb_X} (C : bb_C X RX5 cX5_luck 9) (hR : bb_r X 5) (hr : X.meth.sig.returnType = (some .int)) (h : Nat → Nat) {z : Int32} {s0 : bb_O} (R : bb_R X (some (.int z)) (wX5 X.cs h s0)) {k143 : Int32 → Int32 → Int32 → Int32 → Int32 → Option Int32} (hk143 : ∀ (x3 : Int32) (x4 : Int32) (x5 : Int32) (x6 : Int32) (x7 : Int32), k143 x3 x4 x5 x6 x7 = some z → bb_Z X 9 (wX5 X.cs h s0) 143 [(3, .int x3), (4, .int x4), (5, .int x5), (6, .int x6), (7, .int x7)] []) {x3 : Int32} {x4 : Int32} {x5 : Int32} {x6 : Int32} {x7 : Int32} (hf : G_X5_luck_143 s0 k143 x3 x4 x5 x6 x7 = some z) : bb_Z X 9 (wX5 X.cs h s0) 143 [(3, .int x3), (4, .int x4), (5, .int x5), (6, .int x6), (7, .int x7)] [] := by
  refine z_iload (pc := 143) C 4 dX5_luck_143 rfl ?_
  refine z_if_eq (pc := 145) C 166 dX5_luck_145 (by decide) (fun hc1 => ?_) (fun hc1 => ?_)
  · have hf := bb_t hf hc1
    refine z_iload_n (pc := 166) (i := 3) C 0 dX5_luck_166 rfl rfl ?_
    refine z_if_ne (pc := 167) C 178 dX5_luck_167 (by decide) (fun hc2 => ?_) (fun hc2 => ?_)
    · have hf := bb_e hf hc2
      refine z_iload (pc := 178) C 2 dX5_luck_178 rfl ?_
      refine z_iload (pc := 180) C 3 dX5_luck_180 rfl ?_
      obtain ⟨hn3, hf⟩ := bb_g_some hf
      refine z_idiv (pc := 182) C dX5_luck_182 hn3 ?_
      refine z_lv [] rfl ?_
      exact B_X5_luck_183 C hR hr h R  hf
    · have hf := bb_t hf hc2
      refine z_iload (pc := 170) C 1 dX5_luck_170 rfl ?_
      refine z_iload (pc := 172) C 3 dX5_luck_172 rfl ?_
      obtain ⟨hn4, hf⟩ := bb_g_some hf
      refine z_idiv (pc := 174) C dX5_luck_174 hn4 ?_
      refine z_goto (pc := 175) C 183 dX5_luck_175 (by decide) ?_
      refine z_lv [] rfl ?_
      exact B_X5_luck_183 C hR hr h R  hf
  · have hf := bb_e hf hc1
    refine z_iload (pc := 148) C 3 dX5_luck_148 rfl ?_
    refine z_iload (pc := 150) C 4 dX5_luck_150 rfl ?_
    obtain ⟨hn5, hf⟩ := bb_g_some hf
    refine z_irem (pc := 152) C dX5_luck_152 hn5 ?_
    refine z_istore (pc := 153) (lv' := [(8, .int (x6 % x7)), (3, .int x3), (4, .int x4), (5, .int x5), (6, .int x6), (7, .int x7)]) C dX5_luck_153 (by decide) rfl ?_
    refine z_iload (pc := 155) C 5 dX5_luck_155 rfl ?_
    refine z_istore (pc := 157) (lv' := [(6, .int x7), (8, .int (x6 % x7)), (3, .int x3), (4, .int x4), (5, .int x5), (7, .int x7)]) C dX5_luck_157 (by decide) rfl ?_
    refine z_iload (pc := 159) C 1 dX5_luck_159 rfl ?_
    refine z_istore (pc := 161) (lv' := [(7, .int (x6 % x7)), (6, .int x7), (8, .int (x6 % x7)), (3, .int x3), (4, .int x4), (5, .int x5)]) C dX5_luck_161 (by decide) rfl ?_
    refine z_goto (pc := 163) C 143 dX5_luck_163 (by decide) ?_
    refine z_lv [3, 4, 5, 1, 0] rfl ?_
    exact hk143 _ _ _ _ _ hf
theorem B_X5_luck_143 {X : bb_X} (C : bb_C X RX5 cX5_luck 9) (hR : bb_r X 5) (hr : X.meth.sig.returnType = (some .int)) (h : Nat → Nat) {z : Int32} {s0 : bb_O} (R : bb_R X (some (.int z)) (wX5 X.cs h s0)) : ∀ (n : Nat) (x3 : Int32) (x4 : Int32) (x5 : Int32) (x6 : Int32) (x7 : Int32), F_X5_luck_143 s0 n x3 x4 x5 x6 x7 = some z → bb_Z X 9 (wX5 X.cs h s0) 143 [(3, .int x3), (4, .int x4), (5, .int x5), (6, .int x6), (7, .int x7)] [] := by
  intro n
  induction n with
  | zero =>
    intro x3 x4 x5 x6 x7 hf
    cases hf
  | succ n ih =>
    intro x3 x4 x5 x6 x7 hf
    exact A_X5_luck_143 C hR hr h R  ih hf
noncomputable def F_X5_luck_126 (s0 : bb_O) (k41 : Int32 → Int32 → Int32 → Int32 → Int32 → Int32 → Option Int32) (x1 : Int32) (x2 : Int32) (x3 : Int32) (x5 : Int32) (x6 : Int32) (y0 : Int32) (y1 : Int32) : Option Int32 := k41 x1 x2 x3 (y1 + y0) x5 (x6 + 1)
set_option maxHeartbeats 4000000 in
set_option maxRecDepth 100000 in
theorem B_X5_luck_126 {X : bb_X} (C : bb_C X RX5 cX5_luck 9) (hR : bb_r X 5) (hr : X.meth.sig.returnType = (some .int)) (h : Nat → Nat) {z : Int32} {s0 : bb_O} (R : bb_R X (some (.int z)) (wX5 X.cs h s0)) {k41 : Int32 → Int32 → Int32 → Int32 → Int32 → Int32 → Option Int32} (hk41 : ∀ (x1 : Int32) (x2 : Int32) (x3 : Int32) (x4 : Int32) (x5 : Int32) (x6 : Int32), k41 x1 x2 x3 x4 x5 x6 = some z → bb_Z X 9 (wX5 X.cs h s0) 41 [(0, .ref (h 0)), (1, .int x1), (2, .int x2), (3, .int x3), (4, .int x4), (5, .int x5), (6, .int x6)] []) {x1 : Int32} {x2 : Int32} {x3 : Int32} {x5 : Int32} {x6 : Int32} {y0 : Int32} {y1 : Int32} (hf : F_X5_luck_126 s0 k41 x1 x2 x3 x5 x6 y0 y1 = some z) : bb_Z X 9 (wX5 X.cs h s0) 126 [(0, .ref (h 0)), (1, .int x1), (2, .int x2), (3, .int x3), (5, .int x5), (6, .int x6)] [.int y0, .int y1] := by
  refine z_iadd (pc := 126) C dX5_luck_126 ?_
  refine z_istore (pc := 127) (lv' := [(4, .int (y1 + y0)), (0, .ref (h 0)), (1, .int x1), (2, .int x2), (3, .int x3), (5, .int x5), (6, .int x6)]) C dX5_luck_127 (by decide) rfl ?_
  refine z_iinc (pc := 129) (lv' := [(6, .int (x6 + 1)), (4, .int (y1 + y0)), (0, .ref (h 0)), (1, .int x1), (2, .int x2), (3, .int x3), (5, .int x5)]) C (x6 + 1) 6 dX5_luck_129 rfl rfl (by decide) rfl ?_
  refine z_goto (pc := 132) C 41 dX5_luck_132 (by decide) ?_
  refine z_lv [2, 3, 4, 5, 1, 6, 0] rfl ?_
  exact hk41 _ _ _ _ _ _ hf
noncomputable def F_X5_luck_92 (s0 : bb_O) (k41 : Int32 → Int32 → Int32 → Int32 → Int32 → Int32 → Option Int32) (k60 : Int32 → Int32 → Int32 → Int32 → Int32 → Int32 → Int32 → Int32 → Option Int32) (x1 : Int32) (x2 : Int32) (x3 : Int32) (x4 : Int32) (x5 : Int32) (x6 : Int32) (x8 : Int32) (y0 : Int32) (y1 : Int32) : Option Int32 := k60 x1 x2 x3 x4 x5 x6 (y1 * y0) (x8 + 1)
set_option maxHeartbeats 4000000 in
set_option maxRecDepth 100000 in
theorem B_X5_luck_92 {X : bb_X} (C : bb_C X RX5 cX5_luck 9) (hR : bb_r X 5) (hr : X.meth.sig.returnType = (some .int)) (h : Nat → Nat) {z : Int32} {s0 : bb_O} (R : bb_R X (some (.int z)) (wX5 X.cs h s0)) {k41 : Int32 → Int32 → Int32 → Int32 → Int32 → Int32 → Option Int32} (hk41 : ∀ (x1 : Int32) (x2 : Int32) (x3 : Int32) (x4 : Int32) (x5 : Int32) (x6 : Int32), k41 x1 x2 x3 x4 x5 x6 = some z → bb_Z X 9 (wX5 X.cs h s0) 41 [(0, .ref (h 0)), (1, .int x1), (2, .int x2), (3, .int x3), (4, .int x4), (5, .int x5), (6, .int x6)] []) {k60 : Int32 → Int32 → Int32 → Int32 → Int32 → Int32 → Int32 → Int32 → Option Int32} (hk60 : ∀ (x1 : Int32) (x2 : Int32) (x3 : Int32) (x4 : Int32) (x5 : Int32) (x6 : Int32) (x7 : Int32) (x8 : Int32), k60 x1 x2 x3 x4 x5 x6 x7 x8 = some z → bb_Z X 9 (wX5 X.cs h s0) 60 [(0, .ref (h 0)), (1, .int x1), (2, .int x2), (3, .int x3), (4, .int x4), (5, .int x5), (6, .int x6), (7, .int x7), (8, .int x8)] []) {x1 : Int32} {x2 : Int32} {x3 : Int32} {x4 : Int32} {x5 : Int32} {x6 : Int32} {x8 : Int32} {y0 : Int32} {y1 : Int32} (hf : F_X5_luck_92 s0 k41 k60 x1 x2 x3 x4 x5 x6 x8 y0 y1 = some z) : bb_Z X 9 (wX5 X.cs h s0) 92 [(0, .ref (h 0)), (1, .int x1), (2, .int x2), (3, .int x3), (4, .int x4), (5, .int x5), (6, .int x6), (8, .int x8)] [.int y0, .int y1] := by
  refine z_imul (pc := 92) C dX5_luck_92 ?_
  refine z_istore (pc := 93) (lv' := [(7, .int (y1 * y0)), (0, .ref (h 0)), (1, .int x1), (2, .int x2), (3, .int x3), (4, .int x4), (5, .int x5), (6, .int x6), (8, .int x8)]) C dX5_luck_93 (by decide) rfl ?_
  refine z_iinc (pc := 95) (lv' := [(8, .int (x8 + 1)), (7, .int (y1 * y0)), (0, .ref (h 0)), (1, .int x1), (2, .int x2), (3, .int x3), (4, .int x4), (5, .int x5), (6, .int x6)]) C (x8 + 1) 8 dX5_luck_95 rfl rfl (by decide) rfl ?_
  refine z_goto (pc := 98) C 60 dX5_luck_98 (by decide) ?_
  refine z_lv [2, 3, 4, 5, 6, 7, 8, 1, 0] rfl ?_
  exact hk60 _ _ _ _ _ _ _ _ hf
noncomputable def G_X5_luck_60 (s0 : bb_O) (k41 : Int32 → Int32 → Int32 → Int32 → Int32 → Int32 → Option Int32) (k60 : Int32 → Int32 → Int32 → Int32 → Int32 → Int32 → Int32 → Int32 → Option Int32) (x1 : Int32) (x2 : Int32) (x3 : Int32) (x4 : Int32) (x5 : Int32) (x6 : Int32) (x7 : Int32) (x8 : Int32) : Option Int32 := if (s0.2.1 0 2) ≤ x8 then ((F_X5_follows_0 s0 x6).bind (fun q2 => if q2 = x1 then (F_X5_luck_126 s0 k41 x1 x2 x3 (x5 + x7) x6 x7 x4) else (F_X5_luck_126 s0 k41 x1 x2 x3 (x5 + x7) x6 ((0 : Int32)) x4))) else (if ((x6 >>> (x8 &&& 31)) &&& ((1 : Int32))) = ((1 : Int32)) then (F_X5_luck_92 s0 k41 k60 x1 x2 x3 x4 x5 x6 x8 x2 x7) else (F_X5_luck_92 s0 k41 k60 x1 x2 x3 x4 x5 x6 x8 (((10 : Int32)) - x2) x7))
noncomputable def F_X5_luck_60 (s0 : bb_O) (k41 : Int32 → Int32 → Int32 → Int32 → Int32 → Int32 → Option Int32) : Nat → Int32 → Int32 → Int32 → Int32 → Int32 → Int32 → Int32 → Int32 → Option Int32
  | 0, _, _, _, _, _, _, _, _ => none
  | n + 1, x1, x2, x3, x4, x5, x6, x7, x8 => G_X5_luck_60 s0 k41 (F_X5_luck_60 s0 k41 n) x1 x2 x3 x4 x5 x6 x7 x8
set_option maxHeartbeats 4000000 in
set_option maxRecDepth 100000 in
theorem A_X5_luck_60 {X : bb_X} (C : bb_C X RX5 cX5_luck 9) (hR : bb_r X 5) (hr : X.meth.sig.returnType = (some .int)) (h : Nat → Nat) {z : Int32} {s0 : bb_O} (R : bb_R X (some (.int z)) (wX5 X.cs h s0)) {k41 : Int32 → Int32 → Int32 → Int32 → Int32 → Int32 → Option Int32} (hk41 : ∀ (x1 : Int32) (x2 : Int32) (x3 : Int32) (x4 : Int32) (x5 : Int32) (x6 : Int32), k41 x1 x2 x3 x4 x5 x6 = some z → bb_Z X 9 (wX5 X.cs h s0) 41 [(0, .ref (h 0)), (1, .int x1), (2, .int x2), (3, .int x3), (4, .int x4), (5, .int x5), (6, .int x6)] []) {k60 : Int32 → Int32 → Int32 → Int32 → Int32 → Int32 → Int32 → Int32 → Option Int32} (hk60 : ∀ (x1 : Int32) (x2 : Int32) (x3 : Int32) (x4 : Int32) (x5 : Int32) (x6 : Int32) (x7 : Int32) (x8 : Int32), k60 x1 x2 x3 x4 x5 x6 x7 x8 = some z → bb_Z X 9 (wX5 X.cs h s0) 60 [(0, .ref (h 0)), (1, .int x1), (2, .int x2), (3, .int x3), (4, .int x4), (5, .int x5), (6, .int x6), (7, .int x7), (8, .int x8)] []) {x1 : Int32} {x2 : Int32} {x3 : Int32} {x4 : Int32} {x5 : Int32} {x6 : Int32} {x7 : Int32} {x8 : Int32} (hf : G_X5_luck_60 s0 k41 k60 x1 x2 x3 x4 x5 x6 x7 x8 = some z) : bb_Z X 9 (wX5 X.cs h s0) 60 [(0, .ref (h 0)), (1, .int x1), (2, .int x2), (3, .int x3), (4, .int x4), (5, .int x5), (6, .int x6), (7, .int x7), (8, .int x8)] [] := by
  refine z_iload (pc := 60) C 8 dX5_luck_60 rfl ?_
  refine z_aload_n (pc := 62) (i := 0) C 0 dX5_luck_62 rfl rfl ?_
  refine z_get (pc := 63) (ci := 5) C (.ref (h 1)) bi_X5 rfl 0 0 (by decide) rfl bf_X5_7 rfl rfl dX5_luck_63 ?_
  refine z_iconst (pc := 66) C (2 : Int32) dX5_luck_66 (by decide) ?_
  refine z_iald (pc := 67) C 1 0 (2) rfl rfl (show ¬ ((2 : Int32) < 0 ∨ 39 ≤ (2 : Int32).toNatClampNeg) by decide) (by decide) dX5_luck_67 ?_
  refine z_icmp_ge (pc := 68) C 101 dX5_luck_68 (by decide) (fun hc1 => ?_) (fun hc1 => ?_)
  · have hf := bb_t hf hc1
    refine z_iload (pc := 101) C 5 dX5_luck_101 rfl ?_
    refine z_iload (pc := 103) C 7 dX5_luck_103 rfl ?_
    refine z_iadd (pc := 105) C dX5_luck_105 ?_
    refine z_istore (pc := 106) (lv' := [(5, .int (x5 + x7)), (0, .ref (h 0)), (1, .int x1), (2, .int x2), (3, .int x3), (4, .int x4), (6, .int x6), (7, .int x7), (8, .int x8)]) C dX5_luck_106 (by decide) rfl ?_
    refine z_iload (pc := 108) C 5 dX5_luck_108 rfl ?_
    refine z_aload_n (pc := 110) (i := 0) C 1 dX5_luck_110 rfl rfl ?_
    refine z_iload (pc := 111) C 6 dX5_luck_111 rfl ?_
    obtain ⟨q2, hq2, hf⟩ := bb_b_some hf
    refine z_callVi (pc := 113) (ci := 5) (q0 := 0) (As := [.int x6]) (rest := [.int x4]) C (hR.le (by decide)) (c_X5_follows h hq2) (bb_cut_self _ _) bv_X5_follows bm_X5_74 rfl rfl rfl rfl (Nat.le_of_ble_eq_true rfl) dX5_luck_113 ?_
    refine z_iload_n (pc := 116) (i := 1) C 2 dX5_luck_116 rfl rfl ?_
    refine z_icmp_ne (pc := 117) C 125 dX5_luck_117 (by decide) (fun hc3 => ?_) (fun hc3 => ?_)
    · have hf := bb_e hf hc3
      refine z_iconst (pc := 125) C (0 : Int32) dX5_luck_125 (by decide) ?_
      refine z_lv [1, 2, 3, 4, 0, 6] rfl ?_
      exact B_X5_luck_126 C hR hr h R hk41 hf
    · have hf := bb_t hf hc3
      refine z_iload (pc := 120) C 7 dX5_luck_120 rfl ?_
      refine z_goto (pc := 122) C 126 dX5_luck_122 (by decide) ?_
      refine z_lv [1, 2, 3, 4, 0, 6] rfl ?_
      exact B_X5_luck_126 C hR hr h R hk41 hf
  · have hf := bb_e hf hc1
    refine z_iload (pc := 71) C 7 dX5_luck_71 rfl ?_
    refine z_iload (pc := 73) C 6 dX5_luck_73 rfl ?_
    refine z_iload (pc := 75) C 8 dX5_luck_75 rfl ?_
    refine z_ishr (pc := 77) C dX5_luck_77 ?_
    refine z_iconst (pc := 78) C (1 : Int32) dX5_luck_78 (by decide) ?_
    refine z_iand (pc := 79) C dX5_luck_79 ?_
    refine z_iconst (pc := 80) C (1 : Int32) dX5_luck_80 (by decide) ?_
    refine z_icmp_ne (pc := 81) C 88 dX5_luck_81 (by decide) (fun hc4 => ?_) (fun hc4 => ?_)
    · have hf := bb_e hf hc4
      refine z_bipush (pc := 88) C (10 : Int32) dX5_luck_88 (by decide) ?_
      refine z_iload_n (pc := 90) (i := 2) C 2 dX5_luck_90 rfl rfl ?_
      refine z_isub (pc := 91) C dX5_luck_91 ?_
      refine z_lv [0, 1, 2, 3, 4, 5, 6, 8] rfl ?_
      exact B_X5_luck_92 C hR hr h R hk41 hk60 hf
    · have hf := bb_t hf hc4
      refine z_iload_n (pc := 84) (i := 2) C 2 dX5_luck_84 rfl rfl ?_
      refine z_goto (pc := 85) C 92 dX5_luck_85 (by decide) ?_
      refine z_lv [0, 1, 2, 3, 4, 5, 6, 8] rfl ?_
      exact B_X5_luck_92 C hR hr h R hk41 hk60 hf
theorem B_X5_luck_60 {X : bb_X} (C : bb_C X RX5 cX5_luck 9) (hR : bb_r X 5) (hr : X.meth.sig.returnType = (some .int)) (h : Nat → Nat) {z : Int32} {s0 : bb_O} (R : bb_R X (some (.int z)) (wX5 X.cs h s0)) {k41 : Int32 → Int32 → Int32 → Int32 → Int32 → Int32 → Option Int32} (hk41 : ∀ (x1 : Int32) (x2 : Int32) (x3 : Int32) (x4 : Int32) (x5 : Int32) (x6 : Int32), k41 x1 x2 x3 x4 x5 x6 = some z → bb_Z X 9 (wX5 X.cs h s0) 41 [(0, .ref (h 0)), (1, .int x1), (2, .int x2), (3, .int x3), (4, .int x4), (5, .int x5), (6, .int x6)] []) : ∀ (n : Nat) (x1 : Int32) (x2 : Int32) (x3 : Int32) (x4 : Int32) (x5 : Int32) (x6 : Int32) (x7 : Int32) (x8 : Int32), F_X5_luck_60 s0 k41 n x1 x2 x3 x4 x5 x6 x7 x8 = some z → bb_Z X 9 (wX5 X.cs h s0) 60 [(0, .ref (h 0)), (1, .int x1), (2, .int x2), (3, .int x3), (4, .int x4), (5, .int x5), (6, .int x6), (7, .int x7), (8, .int x8)] [] := by
  intro n
  induction n with
  | zero =>
    intro x1 x2 x3 x4 x5 x6 x7 x8 hf
    cases hf
  | succ n ih =>
    intro x1 x2 x3 x4 x5 x6 x7 x8 hf
    exact A_X5_luck_60 C hR hr h R hk41 ih hf
noncomputable def G_X5_luck_41 (s0 : bb_O) (k41 : Int32 → Int32 → Int32 → Int32 → Int32 → Int32 → Option Int32) (x1 : Int32) (x2 : Int32) (x3 : Int32) (x4 : Int32) (x5 : Int32) (x6 : Int32) : Option Int32 := if (((1 : Int32)) <<< ((s0.2.1 0 2) &&& 31)) ≤ x6 then (F_X5_luck_143 s0 bb_N x3 x4 x5 x4 x5) else (F_X5_luck_60 s0 k41 bb_N x1 x2 x3 x4 x5 x6 ((1 : Int32)) ((0 : Int32)))
noncomputable def F_X5_luck_41 (s0 : bb_O) : Nat → Int32 → Int32 → Int32 → Int32 → Int32 → Int32 → Option Int32
  | 0, _, _, _, _, _, _ => none
  | n + 1, x1, x2, x3, x4, x5, x6 => G_X5_luck_41 s0 (F_X5_luck_41 s0 n) x1 x2 x3 x4 x5 x6
set_option maxHeartbeats 4000000 in
set_option maxRecDepth 100000 in
theorem A_X5_luck_41 {X : bb_X} (C : bb_C X RX5 cX5_luck 9) (hR : bb_r X 5) (hr : X.meth.sig.returnType = (some .int)) (h : Nat → Nat) {z : Int32} {s0 : bb_O} (R : bb_R X (some (.int z)) (wX5 X.cs h s0)) {k41 : Int32 → Int32 → Int32 → Int32 → Int32 → Int32 → Option Int32} (hk41 : ∀ (x1 : Int32) (x2 : Int32) (x3 : Int32) (x4 : Int32) (x5 : Int32) (x6 : Int32), k41 x1 x2 x3 x4 x5 x6 = some z → bb_Z X 9 (wX5 X.cs h s0) 41 [(0, .ref (h 0)), (1, .int x1), (2, .int x2), (3, .int x3), (4, .int x4), (5, .int x5), (6, .int x6)] []) {x1 : Int32} {x2 : Int32} {x3 : Int32} {x4 : Int32} {x5 : Int32} {x6 : Int32} (hf : G_X5_luck_41 s0 k41 x1 x2 x3 x4 x5 x6 = some z) : bb_Z X 9 (wX5 X.cs h s0) 41 [(0, .ref (h 0)), (1, .int x1), (2, .int x2), (3, .int x3), (4, .int x4), (5, .int x5), (6, .int x6)] [] := by
  refine z_iload (pc := 41) C 6 dX5_luck_41 rfl ?_
  refine z_iconst (pc := 43) C (1 : Int32) dX5_luck_43 (by decide) ?_
  refine z_aload_n (pc := 44) (i := 0) C 0 dX5_luck_44 rfl rfl ?_
  refine z_get (pc := 45) (ci := 5) C (.ref (h 1)) bi_X5 rfl 0 0 (by decide) rfl bf_X5_7 rfl rfl dX5_luck_45 ?_
  refine z_iconst (pc := 48) C (2 : Int32) dX5_luck_48 (by decide) ?_
  refine z_iald (pc := 49) C 1 0 (2) rfl rfl (show ¬ ((2 : Int32) < 0 ∨ 39 ≤ (2 : Int32).toNatClampNeg) by decide) (by decide) dX5_luck_49 ?_
  refine z_ishl (pc := 50) C dX5_luck_50 ?_
  refine z_icmp_ge (pc := 51) C 135 dX5_luck_51 (by decide) (fun hc1 => ?_) (fun hc1 => ?_)
  · have hf := bb_t hf hc1
    refine z_iload (pc := 135) C 4 dX5_luck_135 rfl ?_
    refine z_istore (pc := 137) (lv' := [(6, .int x4), (0, .ref (h 0)), (1, .int x1), (2, .int x2), (3, .int x3), (4, .int x4), (5, .int x5)]) C dX5_luck_137 (by decide) rfl ?_
    refine z_iload (pc := 139) C 6 dX5_luck_139 rfl ?_
    refine z_istore (pc := 141) (lv' := [(7, .int x5), (6, .int x4), (0, .ref (h 0)), (1, .int x1), (2, .int x2), (3, .int x3), (4, .int x4), (5, .int x5)]) C dX5_luck_141 (by decide) rfl ?_
    refine z_lv [5, 6, 7, 1, 0] rfl ?_
    exact B_X5_luck_143 C hR hr h R  bb_N _ _ _ _ _ hf
  · have hf := bb_e hf hc1
    refine z_iconst (pc := 54) C (1 : Int32) dX5_luck_54 (by decide) ?_
    refine z_istore (pc := 55) (lv' := [(7, .int ((1 : Int32))), (0, .ref (h 0)), (1, .int x1), (2, .int x2), (3, .int x3), (4, .int x4), (5, .int x5), (6, .int x6)]) C dX5_luck_55 (by decide) rfl ?_
    refine z_iconst (pc := 57) C (0 : Int32) dX5_luck_57 (by decide) ?_
    refine z_istore (pc := 58) (lv' := [(8, .int ((0 : Int32))), (7, .int ((1 : Int32))), (0, .ref (h 0)), (1, .int x1), (2, .int x2), (3, .int x3), (4, .int x4), (5, .int x5), (6, .int x6)]) C dX5_luck_58 (by decide) rfl ?_
    refine z_lv [2, 3, 4, 5, 6, 7, 8, 1, 0] rfl ?_
    exact B_X5_luck_60 C hR hr h R hk41 bb_N _ _ _ _ _ _ _ _ hf
theorem B_X5_luck_41 {X : bb_X} (C : bb_C X RX5 cX5_luck 9) (hR : bb_r X 5) (hr : X.meth.sig.returnType = (some .int)) (h : Nat → Nat) {z : Int32} {s0 : bb_O} (R : bb_R X (some (.int z)) (wX5 X.cs h s0)) : ∀ (n : Nat) (x1 : Int32) (x2 : Int32) (x3 : Int32) (x4 : Int32) (x5 : Int32) (x6 : Int32), F_X5_luck_41 s0 n x1 x2 x3 x4 x5 x6 = some z → bb_Z X 9 (wX5 X.cs h s0) 41 [(0, .ref (h 0)), (1, .int x1), (2, .int x2), (3, .int x3), (4, .int x4), (5, .int x5), (6, .int x6)] [] := by
  intro n
  induction n with
  | zero =>
    intro x1 x2 x3 x4 x5 x6 hf
    cases hf
  | succ n ih =>
    intro x1 x2 x3 x4 x5 x6 hf
    exact A_X5_luck_41 C hR hr h R  ih hf
noncomputable def F_X5_luck_0 (s0 : bb_O) (x1 : Int32) (x2 : Int32) (x3 : Int32) : Option Int32 := (F_X5_isPerson_0 s0 x1).bind (fun q1 => if q1 = 0 then (F_X5_luck_30 s0) else ((F_X5_in_0 (x2.toInt64) ((0 : Int64)) ((10 : Int64))).bind (fun q3 => if q3 = 0 then (F_X5_luck_30 s0) else ((F_X5_in_0 (x3.toInt64) ((0 : Int64)) ((1 : Int64))).bind (fun q5 => if q5 = 0 then (F_X5_luck_30 s0) else (F_X5_luck_41 s0 bb_N x1 x2 x3 ((0 : Int32)) ((0 : Int32)) ((0 : Int32))))))))
set_option maxHeartbeats 4000000 in
set_option maxRecDepth 100000 in
theorem B_X5_luck_0 {X : bb_X} (C : bb_C X RX5 cX5_luck 9) (hR : bb_r X 5) (hr : X.meth.sig.returnType = (some .int)) (h : Nat → Nat) {z : Int32} {s0 : bb_O} (R : bb_R X (some (.int z)) (wX5 X.cs h s0)) {x1 : Int32} {x2 : Int32} {x3 : Int32} (hf : F_X5_luck_0 s0 x1 x2 x3 = some z) : bb_Z X 9 (wX5 X.cs h s0) 0 [(0, .ref (h 0)), (1, .int x1), (2, .int x2), (3, .int x3)] [] := by
  refine z_aload_n (pc := 0) (i := 0) C 0 dX5_luck_0 rfl rfl ?_
  refine z_iload_n (pc := 1) (i := 1) C 1 dX5_luck_1 rfl rfl ?_
  obtain ⟨q1, hq1, hf⟩ := bb_b_some hf
  refine z_callVi (pc := 2) (ci := 5) (q0 := 0) (As := [.int x1]) (rest := []) C (hR.le (by decide)) (c_X5_isPerson h hq1) (bb_cut_self _ _) bv_X5_isPerson bm_X5_107 rfl rfl rfl rfl (Nat.le_of_ble_eq_true rfl) dX5_luck_2 ?_
  refine z_if_eq (pc := 5) C 30 dX5_luck_5 (by decide) (fun hc2 => ?_) (fun hc2 => ?_)
  · have hf := bb_t hf hc2
    refine z_lv [] rfl ?_
    exact B_X5_luck_30 C hR hr h R  hf
  · have hf := bb_e hf hc2
    refine z_iload_n (pc := 8) (i := 2) C 2 dX5_luck_8 rfl rfl ?_
    refine z_i2l (pc := 9) C dX5_luck_9 ?_
    refine z_lconst (pc := 10) C (0 : Int64) dX5_luck_10 (by decide) ?_
    refine z_ldc2_w (pc := 11) C bk_X5_185 dX5_luck_11 ?_
    obtain ⟨q3, hq3, hf⟩ := bb_b_some hf
    refine z_callSi (pc := 14) (As := [.long (x2.toInt64), .long ((0 : Int64)), .long ((10 : Int64))]) (rest := []) C (hR.le (by decide)) (c_X5_in hq3) (bb_cut_none _) bv_X5_in bm_X5_49 rfl rfl (Nat.le_of_ble_eq_true rfl) dX5_luck_14 ?_
    refine z_if_eq (pc := 17) C 30 dX5_luck_17 (by decide) (fun hc4 => ?_) (fun hc4 => ?_)
    · have hf := bb_t hf hc4
      refine z_lv [] rfl ?_
      exact B_X5_luck_30 C hR hr h R  hf
    · have hf := bb_e hf hc4
      refine z_iload_n (pc := 20) (i := 3) C 3 dX5_luck_20 rfl rfl ?_
      refine z_i2l (pc := 21) C dX5_luck_21 ?_
      refine z_lconst (pc := 22) C (0 : Int64) dX5_luck_22 (by decide) ?_
      refine z_lconst (pc := 23) C (1 : Int64) dX5_luck_23 (by decide) ?_
      obtain ⟨q5, hq5, hf⟩ := bb_b_some hf
      refine z_callSi (pc := 24) (As := [.long (x3.toInt64), .long ((0 : Int64)), .long ((1 : Int64))]) (rest := []) C (hR.le (by decide)) (c_X5_in hq5) (bb_cut_none _) bv_X5_in bm_X5_49 rfl rfl (Nat.le_of_ble_eq_true rfl) dX5_luck_24 ?_
      refine z_if_ne (pc := 27) C 32 dX5_luck_27 (by decide) (fun hc6 => ?_) (fun hc6 => ?_)
      · have hf := bb_e hf hc6
        refine z_iconst (pc := 32) C (0 : Int32) dX5_luck_32 (by decide) ?_
        refine z_istore (pc := 33) (lv' := [(4, .int ((0 : Int32))), (0, .ref (h 0)), (1, .int x1), (2, .int x2), (3, .int x3)]) C dX5_luck_33 (by decide) rfl ?_
        refine z_iconst (pc := 35) C (0 : Int32) dX5_luck_35 (by decide) ?_
        refine z_istore (pc := 36) (lv' := [(5, .int ((0 : Int32))), (4, .int ((0 : Int32))), (0, .ref (h 0)), (1, .int x1), (2, .int x2), (3, .int x3)]) C dX5_luck_36 (by decide) rfl ?_
        refine z_iconst (pc := 38) C (0 : Int32) dX5_luck_38 (by decide) ?_
        refine z_istore (pc := 39) (lv' := [(6, .int ((0 : Int32))), (5, .int ((0 : Int32))), (4, .int ((0 : Int32))), (0, .ref (h 0)), (1, .int x1), (2, .int x2), (3, .int x3)]) C dX5_luck_39 (by decide) rfl ?_
        refine z_lv [3, 4, 5, 6, 2, 1, 0] rfl ?_
        exact B_X5_luck_41 C hR hr h R  bb_N _ _ _ _ _ _ hf
      · have hf := bb_t hf hc6
        refine z_lv [] rfl ?_
        exact B_X5_luck_30 C hR hr h R  hf
theorem c_X5_luck {l : Launch} {D : va_G} {cs : Nat → ClassId} (h : Nat → Nat) {s0 : bb_O} {x1 : Int32} {x2 : Int32} {x3 : Int32} {z : Int32} (hf : F_X5_luck_0 s0 x1 x2 x3 = some z) : bb_M l yX5_luck cX5_luck 9 (some .int) 5 D cs [.ref (h 0), .int x1, .int x2, .int x3] (some (.int z)) (wX5 cs h s0) (wX5 cs h s0) := bb_mg (by decide) rfl (Nat.le_of_ble_eq_true rfl) rfl (fun X hl hD hcs C hR hr R => by
  subst hl
  subst hD
  subst hcs
  exact B_X5_luck_0 C hR hr h R hf)
/-! X5_image: writes, level 1 -/
noncomputable def F_X5_image_68 (s0 : bb_O) : Option (Int32 × bb_O) := some ((1 : Int32), s0)
set_option maxHeartbeats 4000000 in
set_option maxRecDepth 100000 in
theorem B_X5_image_68 {X : bb_X} (C : bb_C X RX5 cX5_image 2) (hR : bb_r X 1) (hr : X.meth.sig.returnType = (some .int)) (h : Nat → Nat) {z : (Int32 × bb_O)} (R : bb_R X (some (.int z.1)) (wX5 X.cs h z.2)) {s0 : bb_O} (hf : F_X5_image_68 s0 = some z) : bb_Z X 2 (wX5 X.cs h s0) 68 [] [] := by
  refine z_iconst (pc := 68) C (1 : Int32) dX5_image_68 (by decide) ?_
  obtain rfl := Option.some.inj hf
  exact z_iret (pc := 69) C hr R dX5_image_69
noncomputable def F_X5_image_63 (s0 : bb_O) : Option (Int32 × bb_O) := F_X5_image_68 (bb_sf s0 13 ((1 : Int32)))
set_option maxHeartbeats 4000000 in
set_option maxRecDepth 100000 in
theorem B_X5_image_63 {X : bb_X} (C : bb_C X RX5 cX5_image 2) (hR : bb_r X 1) (hr : X.meth.sig.returnType = (some .int)) (h : Nat → Nat) {z : (Int32 × bb_O)} (R : bb_R X (some (.int z.1)) (wX5 X.cs h z.2)) {s0 : bb_O} (hf : F_X5_image_63 s0 = some z) : bb_Z X 2 (wX5 X.cs h s0) 63 [(0, .ref (h 0))] [] := by
  refine z_aload_n (pc := 63) (i := 0) C 0 dX5_image_63 rfl rfl ?_
  refine z_iconst (pc := 64) C (1 : Int32) dX5_image_64 (by decide) ?_
  refine z_put (pc := 65) (ci := 5) (ty := .boolean) (ws' := wX5 X.cs h (bb_sf s0 13 ((1 : Int32)))) C bi_X5 tyX5_ok nmX5 rfl 0 13 (by decide) rfl bf_X5_190 rfl rfl (bb_nz (Or.inr rfl)) (bb_fz (Or.inr rfl)) rfl (Nat.le_of_ble_eq_true rfl) rfl dX5_image_65 ?_
  refine z_lv [] rfl ?_
  exact B_X5_image_68 C hR hr h R  hf
noncomputable def F_X5_image_49 (k28 : bb_O → Int32 → Option (Int32 × bb_O)) (s0 : bb_O) (x1 : Int32) : Option (Int32 × bb_O) := k28 s0 (x1 + 1)
set_option maxHeartbeats 4000000 in
set_option maxRecDepth 100000 in
theorem B_X5_image_49 {X : bb_X} (C : bb_C X RX5 cX5_image 2) (hR : bb_r X 1) (hr : X.meth.sig.returnType = (some .int)) (h : Nat → Nat) {z : (Int32 × bb_O)} (R : bb_R X (some (.int z.1)) (wX5 X.cs h z.2)) {k28 : bb_O → Int32 → Option (Int32 × bb_O)} (hk28 : ∀ (s0 : bb_O) (x1 : Int32), k28 s0 x1 = some z → bb_Z X 2 (wX5 X.cs h s0) 28 [(0, .ref (h 0)), (1, .int x1)] []) {s0 : bb_O} {x1 : Int32} (hf : F_X5_image_49 k28 s0 x1 = some z) : bb_Z X 2 (wX5 X.cs h s0) 49 [(0, .ref (h 0)), (1, .int x1)] [] := by
  refine z_iinc (pc := 49) (lv' := [(1, .int (x1 + 1)), (0, .ref (h 0))]) C (x1 + 1) 1 dX5_image_49 rfl rfl (by decide) rfl ?_
  refine z_goto (pc := 52) C 28 dX5_image_52 (by decide) ?_
  refine z_lv [1, 0] rfl ?_
  exact hk28 _ _ hf
noncomputable def G_X5_image_28 (k28 : bb_O → Int32 → Option (Int32 × bb_O)) (s0 : bb_O) (x1 : Int32) : Option (Int32 × bb_O) := if ((96 : Int32)) ≤ x1 then (F_X5_image_63 (bb_sf s0 12 (s0.1 9))) else (bb_g (vp_in x1 96) (bb_g (vp_in (((39 : Int32)) + x1) 135) (F_X5_image_49 k28 (bb_sA s0 11 (upd (s0.2.1 11) (((39 : Int32)) + x1).toNatClampNeg (s0.2.1 8 x1.toNatClampNeg))) x1)))
noncomputable def F_X5_image_28  : Nat → bb_O → Int32 → Option (Int32 × bb_O)
  | 0, _, _ => none
  | n + 1, s0, x1 => G_X5_image_28  (F_X5_image_28  n) s0 x1
set_option maxHeartbeats 4000000 in
set_option maxRecDepth 100000 in
theorem A_X5_image_28 {X : bb_X} (C : bb_C X RX5 cX5_image 2) (hR : bb_r X 1) (hr : X.meth.sig.returnType = (some .int)) (h : Nat → Nat) {z : (Int32 × bb_O)} (R : bb_R X (some (.int z.1)) (wX5 X.cs h z.2)) {k28 : bb_O → Int32 → Option (Int32 × bb_O)} (hk28 : ∀ (s0 : bb_O) (x1 : Int32), k28 s0 x1 = some z → bb_Z X 2 (wX5 X.cs h s0) 28 [(0, .ref (h 0)), (1, .int x1)] []) {s0 : bb_O} {x1 : Int32} (hf : G_X5_image_28 k28 s0 x1 = some z) : bb_Z X 2 (wX5 X.cs h s0) 28 [(0, .ref (h 0)), (1, .int x1)] [] := by
  refine z_iload_n (pc := 28) (i := 1) C 1 dX5_image_28 rfl rfl ?_
  refine z_bipush (pc := 29) C (96 : Int32) dX5_image_29 (by decide) ?_
  refine z_icmp_ge (pc := 31) C 55 dX5_image_31 (by decide) (fun hc1 => ?_) (fun hc1 => ?_)
  · have hf := bb_t hf hc1
    refine z_aload_n (pc := 55) (i := 0) C 0 dX5_image_55 rfl rfl ?_
    refine z_aload_n (pc := 56) (i := 0) C 0 dX5_image_56 rfl rfl ?_
    refine z_get (pc := 57) (ci := 5) C (.int (s0.1 9)) bi_X5 rfl 0 9 (by decide) rfl bf_X5_45 rfl rfl dX5_image_57 ?_
    refine z_put (pc := 60) (ci := 5) (ty := .int) (ws' := wX5 X.cs h (bb_sf s0 12 (s0.1 9))) C bi_X5 tyX5_ok nmX5 rfl 0 12 (by decide) rfl bf_X5_187 rfl rfl rfl rfl rfl (Nat.le_of_ble_eq_true rfl) rfl dX5_image_60 ?_
    refine z_lv [0] rfl ?_
    exact B_X5_image_63 C hR hr h R  hf
  · have hf := bb_e hf hc1
    refine z_aload_n (pc := 34) (i := 0) C 0 dX5_image_34 rfl rfl ?_
    refine z_get (pc := 35) (ci := 5) C (.ref (h 12)) bi_X5 rfl 0 11 (by decide) rfl bf_X5_25 rfl rfl dX5_image_35 ?_
    refine z_bipush (pc := 38) C (39 : Int32) dX5_image_38 (by decide) ?_
    refine z_iload_n (pc := 40) (i := 1) C 1 dX5_image_40 rfl rfl ?_
    refine z_iadd (pc := 41) C dX5_image_41 ?_
    refine z_aload_n (pc := 42) (i := 0) C 0 dX5_image_42 rfl rfl ?_
    refine z_get (pc := 43) (ci := 5) C (.ref (h 9)) bi_X5 rfl 0 8 (by decide) rfl bf_X5_19 rfl rfl dX5_image_43 ?_
    refine z_iload_n (pc := 46) (i := 1) C 1 dX5_image_46 rfl rfl ?_
    obtain ⟨hv2, hf⟩ := bb_g_some hf
    refine z_iald (pc := 47) C 4 0 (x1.toNatClampNeg) rfl rfl hv2 rfl dX5_image_47 ?_
    obtain ⟨hv3, hf⟩ := bb_g_some hf
    refine z_iast (pc := 48) (ws' := wX5 X.cs h (bb_sA s0 11 (upd (s0.2.1 11) (((39 : Int32)) + x1).toNatClampNeg (s0.2.1 8 x1.toNatClampNeg)))) C 6 0 ((((39 : Int32)) + x1).toNatClampNeg) rfl rfl hv3 rfl rfl dX5_image_48 ?_
    exact B_X5_image_49 C hR hr h R hk28 hf
theorem B_X5_image_28 {X : bb_X} (C : bb_C X RX5 cX5_image 2) (hR : bb_r X 1) (hr : X.meth.sig.returnType = (some .int)) (h : Nat → Nat) {z : (Int32 × bb_O)} (R : bb_R X (some (.int z.1)) (wX5 X.cs h z.2)) : ∀ (n : Nat) (s0 : bb_O) (x1 : Int32), F_X5_image_28  n s0 x1 = some z → bb_Z X 2 (wX5 X.cs h s0) 28 [(0, .ref (h 0)), (1, .int x1)] [] := by
  intro n
  induction n with
  | zero =>
    intro s0 x1 hf
    cases hf
  | succ n ih =>
    intro s0 x1 hf
    exact A_X5_image_28 C hR hr h R  ih hf
noncomputable def F_X5_image_20 (k2 : bb_O → Int32 → Option (Int32 × bb_O)) (s0 : bb_O) (x1 : Int32) : Option (Int32 × bb_O) := k2 s0 (x1 + 1)
set_option maxHeartbeats 4000000 in
set_option maxRecDepth 100000 in
theorem B_X5_image_20 {X : bb_X} (C : bb_C X RX5 cX5_image 2) (hR : bb_r X 1) (hr : X.meth.sig.returnType = (some .int)) (h : Nat → Nat) {z : (Int32 × bb_O)} (R : bb_R X (some (.int z.1)) (wX5 X.cs h z.2)) {k2 : bb_O → Int32 → Option (Int32 × bb_O)} (hk2 : ∀ (s0 : bb_O) (x1 : Int32), k2 s0 x1 = some z → bb_Z X 2 (wX5 X.cs h s0) 2 [(0, .ref (h 0)), (1, .int x1)] []) {s0 : bb_O} {x1 : Int32} (hf : F_X5_image_20 k2 s0 x1 = some z) : bb_Z X 2 (wX5 X.cs h s0) 20 [(0, .ref (h 0)), (1, .int x1)] [] := by
  refine z_iinc (pc := 20) (lv' := [(1, .int (x1 + 1)), (0, .ref (h 0))]) C (x1 + 1) 1 dX5_image_20 rfl rfl (by decide) rfl ?_
  refine z_goto (pc := 23) C 2 dX5_image_23 (by decide) ?_
  refine z_lv [1, 0] rfl ?_
  exact hk2 _ _ hf
noncomputable def G_X5_image_2 (k2 : bb_O → Int32 → Option (Int32 × bb_O)) (s0 : bb_O) (x1 : Int32) : Option (Int32 × bb_O) := if ((39 : Int32)) ≤ x1 then (F_X5_image_28 bb_N s0 ((0 : Int32))) else (bb_g (vp_in x1 39) (bb_g (vp_in x1 135) (F_X5_image_20 k2 (bb_sA s0 11 (upd (s0.2.1 11) x1.toNatClampNeg (s0.2.1 0 x1.toNatClampNeg))) x1)))
noncomputable def F_X5_image_2  : Nat → bb_O → Int32 → Option (Int32 × bb_O)
  | 0, _, _ => none
  | n + 1, s0, x1 => G_X5_image_2  (F_X5_image_2  n) s0 x1
set_option maxHeartbeats 4000000 in
set_option maxRecDepth 100000 in
theorem A_X5_image_2 {X : bb_X} (C : bb_C X RX5 cX5_image 2) (hR : bb_r X 1) (hr : X.meth.sig.returnType = (some .int)) (h : Nat → Nat) {z : (Int32 × bb_O)} (R : bb_R X (some (.int z.1)) (wX5 X.cs h z.2)) {k2 : bb_O → Int32 → Option (Int32 × bb_O)} (hk2 : ∀ (s0 : bb_O) (x1 : Int32), k2 s0 x1 = some z → bb_Z X 2 (wX5 X.cs h s0) 2 [(0, .ref (h 0)), (1, .int x1)] []) {s0 : bb_O} {x1 : Int32} (hf : G_X5_image_2 k2 s0 x1 = some z) : bb_Z X 2 (wX5 X.cs h s0) 2 [(0, .ref (h 0)), (1, .int x1)] [] := by
  refine z_iload_n (pc := 2) (i := 1) C 1 dX5_image_2 rfl rfl ?_
  refine z_bipush (pc := 3) C (39 : Int32) dX5_image_3 (by decide) ?_
  refine z_icmp_ge (pc := 5) C 26 dX5_image_5 (by decide) (fun hc1 => ?_) (fun hc1 => ?_)
  · have hf := bb_t hf hc1
    refine z_iconst (pc := 26) C (0 : Int32) dX5_image_26 (by decide) ?_
    refine z_istore_n (pc := 27) (i := 1) (lv' := [(1, .int ((0 : Int32))), (0, .ref (h 0))]) C dX5_image_27 rfl (by decide) rfl ?_
    refine z_lv [1, 0] rfl ?_
    exact B_X5_image_28 C hR hr h R  bb_N _ _ hf
  · have hf := bb_e hf hc1
    refine z_aload_n (pc := 8) (i := 0) C 0 dX5_image_8 rfl rfl ?_
    refine z_get (pc := 9) (ci := 5) C (.ref (h 12)) bi_X5 rfl 0 11 (by decide) rfl bf_X5_25 rfl rfl dX5_image_9 ?_
    refine z_iload_n (pc := 12) (i := 1) C 1 dX5_image_12 rfl rfl ?_
    refine z_aload_n (pc := 13) (i := 0) C 0 dX5_image_13 rfl rfl ?_
    refine z_get (pc := 14) (ci := 5) C (.ref (h 1)) bi_X5 rfl 0 0 (by decide) rfl bf_X5_7 rfl rfl dX5_image_14 ?_
    refine z_iload_n (pc := 17) (i := 1) C 1 dX5_image_17 rfl rfl ?_
    obtain ⟨hv2, hf⟩ := bb_g_some hf
    refine z_iald (pc := 18) C 1 0 (x1.toNatClampNeg) rfl rfl hv2 rfl dX5_image_18 ?_
    obtain ⟨hv3, hf⟩ := bb_g_some hf
    refine z_iast (pc := 19) (ws' := wX5 X.cs h (bb_sA s0 11 (upd (s0.2.1 11) x1.toNatClampNeg (s0.2.1 0 x1.toNatClampNeg)))) C 6 0 (x1.toNatClampNeg) rfl rfl hv3 rfl rfl dX5_image_19 ?_
    exact B_X5_image_20 C hR hr h R hk2 hf
theorem B_X5_image_2 {X : bb_X} (C : bb_C X RX5 cX5_image 2) (hR : bb_r X 1) (hr : X.meth.sig.returnType = (some .int)) (h : Nat → Nat) {z : (Int32 × bb_O)} (R : bb_R X (some (.int z.1)) (wX5 X.cs h z.2)) : ∀ (n : Nat) (s0 : bb_O) (x1 : Int32), F_X5_image_2  n s0 x1 = some z → bb_Z X 2 (wX5 X.cs h s0) 2 [(0, .ref (h 0)), (1, .int x1)] [] := by
  intro n
  induction n with
  | zero =>
    intro s0 x1 hf
    cases hf
  | succ n ih =>
    intro s0 x1 hf
    exact A_X5_image_2 C hR hr h R  ih hf
noncomputable def F_X5_image_0 (s0 : bb_O) : Option (Int32 × bb_O) := F_X5_image_2 bb_N s0 ((0 : Int32))
set_option maxHeartbeats 4000000 in
set_option maxRecDepth 100000 in
theorem B_X5_image_0 {X : bb_X} (C : bb_C X RX5 cX5_image 2) (hR : bb_r X 1) (hr : X.meth.sig.returnType = (some .int)) (h : Nat → Nat) {z : (Int32 × bb_O)} (R : bb_R X (some (.int z.1)) (wX5 X.cs h z.2)) {s0 : bb_O} (hf : F_X5_image_0 s0 = some z) : bb_Z X 2 (wX5 X.cs h s0) 0 [(0, .ref (h 0))] [] := by
  refine z_iconst (pc := 0) C (0 : Int32) dX5_image_0 (by decide) ?_
  refine z_istore_n (pc := 1) (i := 1) (lv' := [(1, .int ((0 : Int32))), (0, .ref (h 0))]) C dX5_image_1 rfl (by decide) rfl ?_
  refine z_lv [1, 0] rfl ?_
  exact B_X5_image_2 C hR hr h R  bb_N _ _ hf
theorem c_X5_image {l : Launch} {D : va_G} {cs : Nat → ClassId} (h : Nat → Nat) {s0 : bb_O} {z : (Int32 × bb_O)} (hf : F_X5_image_0 s0 = some z) : bb_M l yX5_image cX5_image 2 (some .int) 1 D cs [.ref (h 0)] (some (.int z.1)) (wX5 cs h s0) (wX5 cs h z.2) := bb_mg (by decide) rfl (Nat.le_of_ble_eq_true rfl) rfl (fun X hl hD hcs C hR hr R => by
  subst hl
  subst hD
  subst hcs
  exact B_X5_image_0 C hR hr h R hf)
/-! X5_restore: writes, level 1 -/
noncomputable def F_X5_restore_73 (s0 : bb_O) : Option (Int32 × bb_O) := some ((1 : Int32), s0)
set_option maxHeartbeats 4000000 in
set_option maxRecDepth 100000 in
theorem B_X5_restore_73 {X : bb_X} (C : bb_C X RX5 cX5_restore 2) (hR : bb_r X 1) (hr : X.meth.sig.returnType = (some .int)) (h : Nat → Nat) {z : (Int32 × bb_O)} (R : bb_R X (some (.int z.1)) (wX5 X.cs h z.2)) {s0 : bb_O} (hf : F_X5_restore_73 s0 = some z) : bb_Z X 2 (wX5 X.cs h s0) 73 [] [] := by
  refine z_iconst (pc := 73) C (1 : Int32) dX5_restore_73 (by decide) ?_
  obtain rfl := Option.some.inj hf
  exact z_iret (pc := 74) C hr R dX5_restore_74
noncomputable def F_X5_restore_59 (k38 : bb_O → Int32 → Option (Int32 × bb_O)) (s0 : bb_O) (x1 : Int32) : Option (Int32 × bb_O) := k38 s0 (x1 + 1)
set_option maxHeartbeats 4000000 in
set_option maxRecDepth 100000 in
theorem B_X5_restore_59 {X : bb_X} (C : bb_C X RX5 cX5_restore 2) (hR : bb_r X 1) (hr : X.meth.sig.returnType = (some .int)) (h : Nat → Nat) {z : (Int32 × bb_O)} (R : bb_R X (some (.int z.1)) (wX5 X.cs h z.2)) {k38 : bb_O → Int32 → Option (Int32 × bb_O)} (hk38 : ∀ (s0 : bb_O) (x1 : Int32), k38 s0 x1 = some z → bb_Z X 2 (wX5 X.cs h s0) 38 [(0, .ref (h 0)), (1, .int x1)] []) {s0 : bb_O} {x1 : Int32} (hf : F_X5_restore_59 k38 s0 x1 = some z) : bb_Z X 2 (wX5 X.cs h s0) 59 [(0, .ref (h 0)), (1, .int x1)] [] := by
  refine z_iinc (pc := 59) (lv' := [(1, .int (x1 + 1)), (0, .ref (h 0))]) C (x1 + 1) 1 dX5_restore_59 rfl rfl (by decide) rfl ?_
  refine z_goto (pc := 62) C 38 dX5_restore_62 (by decide) ?_
  refine z_lv [1, 0] rfl ?_
  exact hk38 _ _ hf
noncomputable def G_X5_restore_38 (k38 : bb_O → Int32 → Option (Int32 × bb_O)) (s0 : bb_O) (x1 : Int32) : Option (Int32 × bb_O) := if ((96 : Int32)) ≤ x1 then (F_X5_restore_73 (bb_sf s0 9 (s0.1 12))) else (bb_g (vp_in (((39 : Int32)) + x1) 135) (bb_g (vp_in x1 96) (F_X5_restore_59 k38 (bb_sA s0 8 (upd (s0.2.1 8) x1.toNatClampNeg (s0.2.1 11 (((39 : Int32)) + x1).toNatClampNeg))) x1)))
noncomputable def F_X5_restore_38  : Nat → bb_O → Int32 → Option (Int32 × bb_O)
  | 0, _, _ => none
  | n + 1, s0, x1 => G_X5_restore_38  (F_X5_restore_38  n) s0 x1
set_option maxHeartbeats 4000000 in
set_option maxRecDepth 100000 in
theorem A_X5_restore_38 {X : bb_X} (C : bb_C X RX5 cX5_restore 2) (hR : bb_r X 1) (hr : X.meth.sig.returnType = (some .int)) (h : Nat → Nat) {z : (Int32 × bb_O)} (R : bb_R X (some (.int z.1)) (wX5 X.cs h z.2)) {k38 : bb_O → Int32 → Option (Int32 × bb_O)} (hk38 : ∀ (s0 : bb_O) (x1 : Int32), k38 s0 x1 = some z → bb_Z X 2 (wX5 X.cs h s0) 38 [(0, .ref (h 0)), (1, .int x1)] []) {s0 : bb_O} {x1 : Int32} (hf : G_X5_restore_38 k38 s0 x1 = some z) : bb_Z X 2 (wX5 X.cs h s0) 38 [(0, .ref (h 0)), (1, .int x1)] [] := by
  refine z_iload_n (pc := 38) (i := 1) C 1 dX5_restore_38 rfl rfl ?_
  refine z_bipush (pc := 39) C (96 : Int32) dX5_restore_39 (by decide) ?_
  refine z_icmp_ge (pc := 41) C 65 dX5_restore_41 (by decide) (fun hc1 => ?_) (fun hc1 => ?_)
  · have hf := bb_t hf hc1
    refine z_aload_n (pc := 65) (i := 0) C 0 dX5_restore_65 rfl rfl ?_
    refine z_aload_n (pc := 66) (i := 0) C 0 dX5_restore_66 rfl rfl ?_
    refine z_get (pc := 67) (ci := 5) C (.int (s0.1 12)) bi_X5 rfl 0 12 (by decide) rfl bf_X5_187 rfl rfl dX5_restore_67 ?_
    refine z_put (pc := 70) (ci := 5) (ty := .int) (ws' := wX5 X.cs h (bb_sf s0 9 (s0.1 12))) C bi_X5 tyX5_ok nmX5 rfl 0 9 (by decide) rfl bf_X5_45 rfl rfl rfl rfl rfl (Nat.le_of_ble_eq_true rfl) rfl dX5_restore_70 ?_
    refine z_lv [] rfl ?_
    exact B_X5_restore_73 C hR hr h R  hf
  · have hf := bb_e hf hc1
    refine z_aload_n (pc := 44) (i := 0) C 0 dX5_restore_44 rfl rfl ?_
    refine z_get (pc := 45) (ci := 5) C (.ref (h 9)) bi_X5 rfl 0 8 (by decide) rfl bf_X5_19 rfl rfl dX5_restore_45 ?_
    refine z_iload_n (pc := 48) (i := 1) C 1 dX5_restore_48 rfl rfl ?_
    refine z_aload_n (pc := 49) (i := 0) C 0 dX5_restore_49 rfl rfl ?_
    refine z_get (pc := 50) (ci := 5) C (.ref (h 12)) bi_X5 rfl 0 11 (by decide) rfl bf_X5_25 rfl rfl dX5_restore_50 ?_
    refine z_bipush (pc := 53) C (39 : Int32) dX5_restore_53 (by decide) ?_
    refine z_iload_n (pc := 55) (i := 1) C 1 dX5_restore_55 rfl rfl ?_
    refine z_iadd (pc := 56) C dX5_restore_56 ?_
    obtain ⟨hv2, hf⟩ := bb_g_some hf
    refine z_iald (pc := 57) C 6 0 ((((39 : Int32)) + x1).toNatClampNeg) rfl rfl hv2 rfl dX5_restore_57 ?_
    obtain ⟨hv3, hf⟩ := bb_g_some hf
    refine z_iast (pc := 58) (ws' := wX5 X.cs h (bb_sA s0 8 (upd (s0.2.1 8) x1.toNatClampNeg (s0.2.1 11 (((39 : Int32)) + x1).toNatClampNeg)))) C 4 0 (x1.toNatClampNeg) rfl rfl hv3 rfl rfl dX5_restore_58 ?_
    exact B_X5_restore_59 C hR hr h R hk38 hf
theorem B_X5_restore_38 {X : bb_X} (C : bb_C X RX5 cX5_restore 2) (hR : bb_r X 1) (hr : X.meth.sig.returnType = (some .int)) (h : Nat → Nat) {z : (Int32 × bb_O)} (R : bb_R X (some (.int z.1)) (wX5 X.cs h z.2)) : ∀ (n : Nat) (s0 : bb_O) (x1 : Int32), F_X5_restore_38  n s0 x1 = some z → bb_Z X 2 (wX5 X.cs h s0) 38 [(0, .ref (h 0)), (1, .int x1)] [] := by
  intro n
  induction n with
  | zero =>
    intro s0 x1 hf
    cases hf
  | succ n ih =>
    intro s0 x1 hf
    exact A_X5_restore_38 C hR hr h R  ih hf
noncomputable def F_X5_restore_30 (k12 : bb_O → Int32 → Option (Int32 × bb_O)) (s0 : bb_O) (x1 : Int32) : Option (Int32 × bb_O) := k12 s0 (x1 + 1)
set_option maxHeartbeats 4000000 in
set_option maxRecDepth 100000 in
theorem B_X5_restore_30 {X : bb_X} (C : bb_C X RX5 cX5_restore 2) (hR : bb_r X 1) (hr : X.meth.sig.returnType = (some .int)) (h : Nat → Nat) {z : (Int32 × bb_O)} (R : bb_R X (some (.int z.1)) (wX5 X.cs h z.2)) {k12 : bb_O → Int32 → Option (Int32 × bb_O)} (hk12 : ∀ (s0 : bb_O) (x1 : Int32), k12 s0 x1 = some z → bb_Z X 2 (wX5 X.cs h s0) 12 [(0, .ref (h 0)), (1, .int x1)] []) {s0 : bb_O} {x1 : Int32} (hf : F_X5_restore_30 k12 s0 x1 = some z) : bb_Z X 2 (wX5 X.cs h s0) 30 [(0, .ref (h 0)), (1, .int x1)] [] := by
  refine z_iinc (pc := 30) (lv' := [(1, .int (x1 + 1)), (0, .ref (h 0))]) C (x1 + 1) 1 dX5_restore_30 rfl rfl (by decide) rfl ?_
  refine z_goto (pc := 33) C 12 dX5_restore_33 (by decide) ?_
  refine z_lv [1, 0] rfl ?_
  exact hk12 _ _ hf
noncomputable def G_X5_restore_12 (k12 : bb_O → Int32 → Option (Int32 × bb_O)) (s0 : bb_O) (x1 : Int32) : Option (Int32 × bb_O) := if ((39 : Int32)) ≤ x1 then (F_X5_restore_38 bb_N s0 ((0 : Int32))) else (bb_g (vp_in x1 135) (bb_g (vp_in x1 39) (F_X5_restore_30 k12 (bb_sA s0 0 (upd (s0.2.1 0) x1.toNatClampNeg (s0.2.1 11 x1.toNatClampNeg))) x1)))
noncomputable def F_X5_restore_12  : Nat → bb_O → Int32 → Option (Int32 × bb_O)
  | 0, _, _ => none
  | n + 1, s0, x1 => G_X5_restore_12  (F_X5_restore_12  n) s0 x1
set_option maxHeartbeats 4000000 in
set_option maxRecDepth 100000 in
theorem A_X5_restore_12 {X : bb_X} (C : bb_C X RX5 cX5_restore 2) (hR : bb_r X 1) (hr : X.meth.sig.returnType = (some .int)) (h : Nat → Nat) {z : (Int32 × bb_O)} (R : bb_R X (some (.int z.1)) (wX5 X.cs h z.2)) {k12 : bb_O → Int32 → Option (Int32 × bb_O)} (hk12 : ∀ (s0 : bb_O) (x1 : Int32), k12 s0 x1 = some z → bb_Z X 2 (wX5 X.cs h s0) 12 [(0, .ref (h 0)), (1, .int x1)] []) {s0 : bb_O} {x1 : Int32} (hf : G_X5_restore_12 k12 s0 x1 = some z) : bb_Z X 2 (wX5 X.cs h s0) 12 [(0, .ref (h 0)), (1, .int x1)] [] := by
  refine z_iload_n (pc := 12) (i := 1) C 1 dX5_restore_12 rfl rfl ?_
  refine z_bipush (pc := 13) C (39 : Int32) dX5_restore_13 (by decide) ?_
  refine z_icmp_ge (pc := 15) C 36 dX5_restore_15 (by decide) (fun hc1 => ?_) (fun hc1 => ?_)
  · have hf := bb_t hf hc1
    refine z_iconst (pc := 36) C (0 : Int32) dX5_restore_36 (by decide) ?_
    refine z_istore_n (pc := 37) (i := 1) (lv' := [(1, .int ((0 : Int32))), (0, .ref (h 0))]) C dX5_restore_37 rfl (by decide) rfl ?_
    refine z_lv [1, 0] rfl ?_
    exact B_X5_restore_38 C hR hr h R  bb_N _ _ hf
  · have hf := bb_e hf hc1
    refine z_aload_n (pc := 18) (i := 0) C 0 dX5_restore_18 rfl rfl ?_
    refine z_get (pc := 19) (ci := 5) C (.ref (h 1)) bi_X5 rfl 0 0 (by decide) rfl bf_X5_7 rfl rfl dX5_restore_19 ?_
    refine z_iload_n (pc := 22) (i := 1) C 1 dX5_restore_22 rfl rfl ?_
    refine z_aload_n (pc := 23) (i := 0) C 0 dX5_restore_23 rfl rfl ?_
    refine z_get (pc := 24) (ci := 5) C (.ref (h 12)) bi_X5 rfl 0 11 (by decide) rfl bf_X5_25 rfl rfl dX5_restore_24 ?_
    refine z_iload_n (pc := 27) (i := 1) C 1 dX5_restore_27 rfl rfl ?_
    obtain ⟨hv2, hf⟩ := bb_g_some hf
    refine z_iald (pc := 28) C 6 0 (x1.toNatClampNeg) rfl rfl hv2 rfl dX5_restore_28 ?_
    obtain ⟨hv3, hf⟩ := bb_g_some hf
    refine z_iast (pc := 29) (ws' := wX5 X.cs h (bb_sA s0 0 (upd (s0.2.1 0) x1.toNatClampNeg (s0.2.1 11 x1.toNatClampNeg)))) C 1 0 (x1.toNatClampNeg) rfl rfl hv3 rfl rfl dX5_restore_29 ?_
    exact B_X5_restore_30 C hR hr h R hk12 hf
theorem B_X5_restore_12 {X : bb_X} (C : bb_C X RX5 cX5_restore 2) (hR : bb_r X 1) (hr : X.meth.sig.returnType = (some .int)) (h : Nat → Nat) {z : (Int32 × bb_O)} (R : bb_R X (some (.int z.1)) (wX5 X.cs h z.2)) : ∀ (n : Nat) (s0 : bb_O) (x1 : Int32), F_X5_restore_12  n s0 x1 = some z → bb_Z X 2 (wX5 X.cs h s0) 12 [(0, .ref (h 0)), (1, .int x1)] [] := by
  intro n
  induction n with
  | zero =>
    intro s0 x1 hf
    cases hf
  | succ n ih =>
    intro s0 x1 hf
    exact A_X5_restore_12 C hR hr h R  ih hf
noncomputable def F_X5_restore_0 (s0 : bb_O) : Option (Int32 × bb_O) := if (s0.1 13) = 0 then (some ((-4 : Int32), s0)) else (F_X5_restore_12 bb_N s0 ((0 : Int32)))
set_option maxHeartbeats 4000000 in
set_option maxRecDepth 100000 in
theorem B_X5_restore_0 {X : bb_X} (C : bb_C X RX5 cX5_restore 2) (hR : bb_r X 1) (hr : X.meth.sig.returnType = (some .int)) (h : Nat → Nat) {z : (Int32 × bb_O)} (R : bb_R X (some (.int z.1)) (wX5 X.cs h z.2)) {s0 : bb_O} (hf : F_X5_restore_0 s0 = some z) : bb_Z X 2 (wX5 X.cs h s0) 0 [(0, .ref (h 0))] [] := by
  refine z_aload_n (pc := 0) (i := 0) C 0 dX5_restore_0 rfl rfl ?_
  refine z_get (pc := 1) (ci := 5) C (.int (s0.1 13)) bi_X5 rfl 0 13 (by decide) rfl bf_X5_190 rfl rfl dX5_restore_1 ?_
  refine z_if_ne (pc := 4) C 10 dX5_restore_4 (by decide) (fun hc1 => ?_) (fun hc1 => ?_)
  · have hf := bb_e hf hc1
    refine z_iconst (pc := 10) C (0 : Int32) dX5_restore_10 (by decide) ?_
    refine z_istore_n (pc := 11) (i := 1) (lv' := [(1, .int ((0 : Int32))), (0, .ref (h 0))]) C dX5_restore_11 rfl (by decide) rfl ?_
    refine z_lv [1, 0] rfl ?_
    exact B_X5_restore_12 C hR hr h R  bb_N _ _ hf
  · have hf := bb_t hf hc1
    refine z_bipush (pc := 7) C (-4 : Int32) dX5_restore_7 (by decide) ?_
    obtain rfl := Option.some.inj hf
    exact z_iret (pc := 9) C hr R dX5_restore_9
theorem c_X5_restore {l : Launch} {D : va_G} {cs : Nat → ClassId} (h : Nat → Nat) {s0 : bb_O} {z : (Int32 × bb_O)} (hf : F_X5_restore_0 s0 = some z) : bb_M l yX5_restore cX5_restore 2 (some .int) 1 D cs [.ref (h 0)] (some (.int z.1)) (wX5 cs h s0) (wX5 cs h z.2) := bb_mg (by decide) rfl (Nat.le_of_ble_eq_true rfl) rfl (fun X hl hD hcs C hR hr R => by
  subst hl
  subst hD
  subst hcs
  exact B_X5_restore_0 C hR hr h R hf)
/-! X5_isSheet: reads, level 2 -/
noncomputable def F_X5_isSheet_0 (x0 : Int32) : Option Int32 := (F_X5_in_0 (x0.toInt64) ((0 : Int64)) ((3 : Int64))).bind (fun q1 => bb_g (bb_z q1) (some q1))
set_option maxHeartbeats 4000000 in
set_option maxRecDepth 100000 in
theorem B_X5_isSheet_0 {X : bb_X} (C : bb_C X RX5 cX5_isSheet 1) (hR : bb_r X 2) (hr : X.meth.sig.returnType = (some .boolean)) {z : Int32} (R : bb_R X (some (.int z)) ([])) {x0 : Int32} (hf : F_X5_isSheet_0 x0 = some z) : bb_Z X 1 ([]) 0 [(0, .int x0)] [] := by
  refine z_iload_n (pc := 0) (i := 0) C 0 dX5_isSheet_0 rfl rfl ?_
  refine z_i2l (pc := 1) C dX5_isSheet_1 ?_
  refine z_lconst (pc := 2) C (0 : Int64) dX5_isSheet_2 (by decide) ?_
  refine z_ldc2_w (pc := 3) C bk_X5_159 dX5_isSheet_3 ?_
  obtain ⟨q1, hq1, hf⟩ := bb_b_some hf
  refine z_callSi (pc := 6) (As := [.long (x0.toInt64), .long ((0 : Int64)), .long ((3 : Int64))]) (rest := []) C (hR.le (by decide)) (c_X5_in hq1) (bb_cut_none _) bv_X5_in bm_X5_49 rfl rfl (Nat.le_of_ble_eq_true rfl) dX5_isSheet_6 ?_
  obtain ⟨hz2, hf⟩ := bb_g_some hf
  obtain rfl := Option.some.inj hf
  exact z_zret (pc := 9) C hr (bb_nz hz2) R dX5_isSheet_9
theorem c_X5_isSheet {l : Launch} {D : va_G} {cs : Nat → ClassId} {x0 : Int32} {z : Int32} (hf : F_X5_isSheet_0 x0 = some z) : bb_M l yX5_isSheet cX5_isSheet 1 (some .boolean) 2 D cs [.int x0] (some (.int z)) ([]) ([]) := bb_mg (by decide) rfl (Nat.le_of_ble_eq_true rfl) rfl (fun X hl hD hcs C hR hr R => by
  subst hl
  subst hD
  subst hcs
  exact B_X5_isSheet_0 C hR hr  R hf)
/-! X5_isLane: reads, level 2 -/
noncomputable def F_X5_isLane_0 (x0 : Int32) : Option Int32 := (F_X5_in_0 (x0.toInt64) ((0 : Int64)) ((3 : Int64))).bind (fun q1 => bb_g (bb_z q1) (some q1))
set_option maxHeartbeats 4000000 in
set_option maxRecDepth 100000 in
theorem B_X5_isLane_0 {X : bb_X} (C : bb_C X RX5 cX5_isLane 1) (hR : bb_r X 2) (hr : X.meth.sig.returnType = (some .boolean)) {z : Int32} (R : bb_R X (some (.int z)) ([])) {x0 : Int32} (hf : F_X5_isLane_0 x0 = some z) : bb_Z X 1 ([]) 0 [(0, .int x0)] [] := by
  refine z_iload_n (pc := 0) (i := 0) C 0 dX5_isLane_0 rfl rfl ?_
  refine z_i2l (pc := 1) C dX5_isLane_1 ?_
  refine z_lconst (pc := 2) C (0 : Int64) dX5_isLane_2 (by decide) ?_
  refine z_ldc2_w (pc := 3) C bk_X5_159 dX5_isLane_3 ?_
  obtain ⟨q1, hq1, hf⟩ := bb_b_some hf
  refine z_callSi (pc := 6) (As := [.long (x0.toInt64), .long ((0 : Int64)), .long ((3 : Int64))]) (rest := []) C (hR.le (by decide)) (c_X5_in hq1) (bb_cut_none _) bv_X5_in bm_X5_49 rfl rfl (Nat.le_of_ble_eq_true rfl) dX5_isLane_6 ?_
  obtain ⟨hz2, hf⟩ := bb_g_some hf
  obtain rfl := Option.some.inj hf
  exact z_zret (pc := 9) C hr (bb_nz hz2) R dX5_isLane_9
theorem c_X5_isLane {l : Launch} {D : va_G} {cs : Nat → ClassId} {x0 : Int32} {z : Int32} (hf : F_X5_isLane_0 x0 = some z) : bb_M l yX5_isLane cX5_isLane 1 (some .boolean) 2 D cs [.int x0] (some (.int z)) ([]) ([]) := bb_mg (by decide) rfl (Nat.le_of_ble_eq_true rfl) rfl (fun X hl hD hcs C hR hr R => by
  subst hl
  subst hD
  subst hcs
  exact B_X5_isLane_0 C hR hr  R hf)
/-! X5_why: reads, level 1 -/
noncomputable def F_X5_why_57 (s0 : bb_O) (y0 : Int32) : Option Int32 := some y0
set_option maxHeartbeats 4000000 in
set_option maxRecDepth 100000 in
theorem B_X5_why_57 {X : bb_X} (C : bb_C X RX5 cX5_why 5) (hR : bb_r X 1) (hr : X.meth.sig.returnType = (some .int)) (h : Nat → Nat) {z : Int32} {s0 : bb_O} (R : bb_R X (some (.int z)) (wX5 X.cs h s0)) {y0 : Int32} (hf : F_X5_why_57 s0 y0 = some z) : bb_Z X 5 (wX5 X.cs h s0) 57 [] [.int y0] := by
  obtain rfl := Option.some.inj hf
  exact z_iret (pc := 57) C hr R dX5_why_57
noncomputable def F_X5_why_51 (s0 : bb_O) : Option Int32 := F_X5_why_57 s0 ((-13 : Int32))
set_option maxHeartbeats 4000000 in
set_option maxRecDepth 100000 in
theorem B_X5_why_51 {X : bb_X} (C : bb_C X RX5 cX5_why 5) (hR : bb_r X 1) (hr : X.meth.sig.returnType = (some .int)) (h : Nat → Nat) {z : Int32} {s0 : bb_O} (R : bb_R X (some (.int z)) (wX5 X.cs h s0))  (hf : F_X5_why_51 s0 = some z) : bb_Z X 5 (wX5 X.cs h s0) 51 [] [] := by
  refine z_bipush (pc := 51) C (-13 : Int32) dX5_why_51 (by decide) ?_
  refine z_goto (pc := 53) C 57 dX5_why_53 (by decide) ?_
  exact B_X5_why_57 C hR hr h R  hf
noncomputable def F_X5_why_0 (s0 : bb_O) (x1 : Int32) (x2 : Int32) (x3 : Int32) (x4 : Int32) : Option Int32 := bb_g (vp_in x1 4) (if 0 ≤ (s0.2.1 14 x1.toNatClampNeg) then (bb_g (vp_in x1 4) (if (s0.2.1 14 x1.toNatClampNeg) = x2 then (if x3 < 0 then (F_X5_why_51 s0) else (if x4 < 0 then (F_X5_why_51 s0) else (bb_g (vp_in x1 4) (if (lg_cmp ((x3.toInt64) + (x4.toInt64)) ((s0.2.1 15 x1.toNatClampNeg).toInt64)) ≤ 0 then (F_X5_why_57 s0 ((0 : Int32))) else (F_X5_why_51 s0))))) else (some ((-12 : Int32))))) else (some ((-11 : Int32))))
set_option maxHeartbeats 4000000 in
set_option maxRecDepth 100000 in
theorem B_X5_why_0 {X : bb_X} (C : bb_C X RX5 cX5_why 5) (hR : bb_r X 1) (hr : X.meth.sig.returnType = (some .int)) (h : Nat → Nat) {z : Int32} {s0 : bb_O} (R : bb_R X (some (.int z)) (wX5 X.cs h s0)) {x1 : Int32} {x2 : Int32} {x3 : Int32} {x4 : Int32} (hf : F_X5_why_0 s0 x1 x2 x3 x4 = some z) : bb_Z X 5 (wX5 X.cs h s0) 0 [(0, .ref (h 0)), (1, .int x1), (2, .int x2), (3, .int x3), (4, .int x4)] [] := by
  refine z_aload_n (pc := 0) (i := 0) C 0 dX5_why_0 rfl rfl ?_
  refine z_get (pc := 1) (ci := 5) C (.ref (h 15)) bi_X5 rfl 0 14 (by decide) rfl bf_X5_28 rfl rfl dX5_why_1 ?_
  refine z_iload_n (pc := 4) (i := 1) C 1 dX5_why_4 rfl rfl ?_
  obtain ⟨hv1, hf⟩ := bb_g_some hf
  refine z_iald (pc := 5) C 7 0 (x1.toNatClampNeg) rfl rfl hv1 rfl dX5_why_5 ?_
  refine z_if_ge (pc := 6) C 12 dX5_why_6 (by decide) (fun hc2 => ?_) (fun hc2 => ?_)
  · have hf := bb_t hf hc2
    refine z_aload_n (pc := 12) (i := 0) C 0 dX5_why_12 rfl rfl ?_
    refine z_get (pc := 13) (ci := 5) C (.ref (h 15)) bi_X5 rfl 0 14 (by decide) rfl bf_X5_28 rfl rfl dX5_why_13 ?_
    refine z_iload_n (pc := 16) (i := 1) C 1 dX5_why_16 rfl rfl ?_
    obtain ⟨hv3, hf⟩ := bb_g_some hf
    refine z_iald (pc := 17) C 7 0 (x1.toNatClampNeg) rfl rfl hv3 rfl dX5_why_17 ?_
    refine z_iload_n (pc := 18) (i := 2) C 2 dX5_why_18 rfl rfl ?_
    refine z_icmp_eq (pc := 19) C 25 dX5_why_19 (by decide) (fun hc4 => ?_) (fun hc4 => ?_)
    · have hf := bb_t hf hc4
      refine z_iload_n (pc := 25) (i := 3) C 3 dX5_why_25 rfl rfl ?_
      refine z_if_lt (pc := 26) C 51 dX5_why_26 (by decide) (fun hc5 => ?_) (fun hc5 => ?_)
      · have hf := bb_t hf hc5
        refine z_lv [] rfl ?_
        exact B_X5_why_51 C hR hr h R  hf
      · have hf := bb_e hf hc5
        refine z_iload (pc := 29) C 4 dX5_why_29 rfl ?_
        refine z_if_lt (pc := 31) C 51 dX5_why_31 (by decide) (fun hc6 => ?_) (fun hc6 => ?_)
        · have hf := bb_t hf hc6
          refine z_lv [] rfl ?_
          exact B_X5_why_51 C hR hr h R  hf
        · have hf := bb_e hf hc6
          refine z_iload_n (pc := 34) (i := 3) C 3 dX5_why_34 rfl rfl ?_
          refine z_i2l (pc := 35) C dX5_why_35 ?_
          refine z_iload (pc := 36) C 4 dX5_why_36 rfl ?_
          refine z_i2l (pc := 38) C dX5_why_38 ?_
          refine z_ladd (pc := 39) C dX5_why_39 ?_
          refine z_aload_n (pc := 40) (i := 0) C 0 dX5_why_40 rfl rfl ?_
          refine z_get (pc := 41) (ci := 5) C (.ref (h 16)) bi_X5 rfl 0 15 (by decide) rfl bf_X5_31 rfl rfl dX5_why_41 ?_
          refine z_iload_n (pc := 44) (i := 1) C 1 dX5_why_44 rfl rfl ?_
          obtain ⟨hv7, hf⟩ := bb_g_some hf
          refine z_iald (pc := 45) C 8 0 (x1.toNatClampNeg) rfl rfl hv7 rfl dX5_why_45 ?_
          refine z_i2l (pc := 46) C dX5_why_46 ?_
          refine z_lcmp (pc := 47) C dX5_why_47 ?_
          refine z_if_le (pc := 48) C 56 dX5_why_48 (by decide) (fun hc8 => ?_) (fun hc8 => ?_)
          · have hf := bb_t hf hc8
            refine z_iconst (pc := 56) C (0 : Int32) dX5_why_56 (by decide) ?_
            refine z_lv [] rfl ?_
            exact B_X5_why_57 C hR hr h R  hf
          · have hf := bb_e hf hc8
            refine z_lv [] rfl ?_
            exact B_X5_why_51 C hR hr h R  hf
    · have hf := bb_e hf hc4
      refine z_bipush (pc := 22) C (-12 : Int32) dX5_why_22 (by decide) ?_
      obtain rfl := Option.some.inj hf
      exact z_iret (pc := 24) C hr R dX5_why_24
  · have hf := bb_e hf hc2
    refine z_bipush (pc := 9) C (-11 : Int32) dX5_why_9 (by decide) ?_
    obtain rfl := Option.some.inj hf
    exact z_iret (pc := 11) C hr R dX5_why_11
theorem c_X5_why {l : Launch} {D : va_G} {cs : Nat → ClassId} (h : Nat → Nat) {s0 : bb_O} {x1 : Int32} {x2 : Int32} {x3 : Int32} {x4 : Int32} {z : Int32} (hf : F_X5_why_0 s0 x1 x2 x3 x4 = some z) : bb_M l yX5_why cX5_why 5 (some .int) 1 D cs [.ref (h 0), .int x1, .int x2, .int x3, .int x4] (some (.int z)) (wX5 cs h s0) (wX5 cs h s0) := bb_mg (by decide) rfl (Nat.le_of_ble_eq_true rfl) rfl (fun X hl hD hcs C hR hr R => by
  subst hl
  subst hD
  subst hcs
  exact B_X5_why_0 C hR hr h R hf)
/-! X5_seen: writes, level 6 -/
noncomputable def F_X5_seen_38 (s0 : bb_O) : Option (Int32 × bb_O) := some ((-1 : Int32), s0)
set_option maxHeartbeats 4000000 in
set_option maxRecDepth 100000 in
theorem B_X5_seen_38 {X : bb_X} (C : bb_C X RX5 cX5_seen 12) (hR : bb_r X 6) (hr : X.meth.sig.returnType = (some .int)) (h : Nat → Nat) {z : (Int32 × bb_O)} (R : bb_R X (some (.int z.1)) (wX5 X.cs h z.2)) {s0 : bb_O} (hf : F_X5_seen_38 s0 = some z) : bb_Z X 12 (wX5 X.cs h s0) 38 [] [] := by
  refine z_iconst (pc := 38) C (-1 : Int32) dX5_seen_38 (by decide) ?_
  obtain rfl := Option.some.inj hf
  exact z_iret (pc := 39) C hr R dX5_seen_39
noncomputable def F_X5_seen_207 (s0 : bb_O) (y0 : Int32) : Option (Int32 × bb_O) := some (y0, s0)
set_option maxHeartbeats 4000000 in
set_option maxRecDepth 100000 in
theorem B_X5_seen_207 {X : bb_X} (C : bb_C X RX5 cX5_seen 12) (hR : bb_r X 6) (hr : X.meth.sig.returnType = (some .int)) (h : Nat → Nat) {z : (Int32 × bb_O)} (R : bb_R X (some (.int z.1)) (wX5 X.cs h z.2)) {s0 : bb_O} {y0 : Int32} (hf : F_X5_seen_207 s0 y0 = some z) : bb_Z X 12 (wX5 X.cs h s0) 207 [] [.int y0] := by
  obtain rfl := Option.some.inj hf
  exact z_iret (pc := 207) C hr R dX5_seen_207
noncomputable def F_X5_seen_182 (k73 : bb_O → Int32 → Int32 → Int32 → Int32 → Int32 → Int32 → Int32 → Option (Int32 × bb_O)) (s0 : bb_O) (x1 : Int32) (x3 : Int32) (x4 : Int32) (x5 : Int32) (x8 : Int32) (x9 : Int32) (y0 : Int32) (y1 : Int32) : Option (Int32 × bb_O) := (F_X5_backs_0 s0).bind (fun q1 => k73 q1 x1 x3 x4 x5 (y1 + y0) x8 (x9 + 1))
set_option maxHeartbeats 4000000 in
set_option maxRecDepth 100000 in
theorem B_X5_seen_182 {X : bb_X} (C : bb_C X RX5 cX5_seen 12) (hR : bb_r X 6) (hr : X.meth.sig.returnType = (some .int)) (h : Nat → Nat) {z : (Int32 × bb_O)} (R : bb_R X (some (.int z.1)) (wX5 X.cs h z.2)) {k73 : bb_O → Int32 → Int32 → Int32 → Int32 → Int32 → Int32 → Int32 → Option (Int32 × bb_O)} (hk73 : ∀ (s0 : bb_O) (x1 : Int32) (x3 : Int32) (x4 : Int32) (x5 : Int32) (x7 : Int32) (x8 : Int32) (x9 : Int32), k73 s0 x1 x3 x4 x5 x7 x8 x9 = some z → bb_Z X 12 (wX5 X.cs h s0) 73 [(0, .ref (h 0)), (1, .int x1), (3, .int x3), (4, .int x4), (5, .int x5), (7, .int x7), (8, .int x8), (9, .int x9)] []) {s0 : bb_O} {x1 : Int32} {x3 : Int32} {x4 : Int32} {x5 : Int32} {x8 : Int32} {x9 : Int32} {y0 : Int32} {y1 : Int32} (hf : F_X5_seen_182 k73 s0 x1 x3 x4 x5 x8 x9 y0 y1 = some z) : bb_Z X 12 (wX5 X.cs h s0) 182 [(0, .ref (h 0)), (1, .int x1), (3, .int x3), (4, .int x4), (5, .int x5), (8, .int x8), (9, .int x9)] [.int y0, .int y1] := by
  refine z_iadd (pc := 182) C dX5_seen_182 ?_
  refine z_istore (pc := 183) (lv' := [(7, .int (y1 + y0)), (0, .ref (h 0)), (1, .int x1), (3, .int x3), (4, .int x4), (5, .int x5), (8, .int x8), (9, .int x9)]) C dX5_seen_183 (by decide) rfl ?_
  refine z_aload_n (pc := 185) (i := 0) C 1 dX5_seen_185 rfl rfl ?_
  obtain ⟨q1, hq1, hf⟩ := bb_b_some hf
  refine z_callVv (pc := 186) (ci := 5) (q0 := 0) (As := []) (rest := []) (ws' := wX5 X.cs h q1) C (hR.le (by decide)) (c_X5_backs h hq1) (bb_cut_self _ _) bv_X5_backs bm_X5_176 rfl rfl rfl rfl (Nat.le_of_ble_eq_true rfl) dX5_seen_186 ?_
  refine z_iinc (pc := 189) (lv' := [(9, .int (x9 + 1)), (7, .int (y1 + y0)), (0, .ref (h 0)), (1, .int x1), (3, .int x3), (4, .int x4), (5, .int x5), (8, .int x8)]) C (x9 + 1) 7 dX5_seen_189 rfl rfl (by decide) rfl ?_
  refine z_goto (pc := 192) C 73 dX5_seen_192 (by decide) ?_
  refine z_lv [2, 3, 4, 5, 6, 1, 7, 0] rfl ?_
  exact hk73 _ _ _ _ _ _ _ _ hf
noncomputable def F_X5_seen_168 (k73 : bb_O → Int32 → Int32 → Int32 → Int32 → Int32 → Int32 → Int32 → Option (Int32 × bb_O)) (s0 : bb_O) (x1 : Int32) (x3 : Int32) (x4 : Int32) (x5 : Int32) (x7 : Int32) (x9 : Int32) (x10 : Int32) (y0 : Int32) : Option (Int32 × bb_O) := if x10 = 0 then (F_X5_seen_182 k73 s0 x1 x3 x4 x5 y0 x9 ((0 : Int32)) x7) else (F_X5_seen_182 k73 s0 x1 x3 x4 x5 y0 x9 ((1 : Int32)) x7)
set_option maxHeartbeats 4000000 in
set_option maxRecDepth 100000 in
theorem B_X5_seen_168 {X : bb_X} (C : bb_C X RX5 cX5_seen 12) (hR : bb_r X 6) (hr : X.meth.sig.returnType = (some .int)) (h : Nat → Nat) {z : (Int32 × bb_O)} (R : bb_R X (some (.int z.1)) (wX5 X.cs h z.2)) {k73 : bb_O → Int32 → Int32 → Int32 → Int32 → Int32 → Int32 → Int32 → Option (Int32 × bb_O)} (hk73 : ∀ (s0 : bb_O) (x1 : Int32) (x3 : Int32) (x4 : Int32) (x5 : Int32) (x7 : Int32) (x8 : Int32) (x9 : Int32), k73 s0 x1 x3 x4 x5 x7 x8 x9 = some z → bb_Z X 12 (wX5 X.cs h s0) 73 [(0, .ref (h 0)), (1, .int x1), (3, .int x3), (4, .int x4), (5, .int x5), (7, .int x7), (8, .int x8), (9, .int x9)] []) {s0 : bb_O} {x1 : Int32} {x3 : Int32} {x4 : Int32} {x5 : Int32} {x7 : Int32} {x9 : Int32} {x10 : Int32} {y0 : Int32} (hf : F_X5_seen_168 k73 s0 x1 x3 x4 x5 x7 x9 x10 y0 = some z) : bb_Z X 12 (wX5 X.cs h s0) 168 [(0, .ref (h 0)), (1, .int x1), (3, .int x3), (4, .int x4), (5, .int x5), (7, .int x7), (9, .int x9), (10, .int x10)] [.int y0] := by
  refine z_istore (pc := 168) (lv' := [(8, .int y0), (0, .ref (h 0)), (1, .int x1), (3, .int x3), (4, .int x4), (5, .int x5), (7, .int x7), (9, .int x9), (10, .int x10)]) C dX5_seen_168 (by decide) rfl ?_
  refine z_iload (pc := 170) C 6 dX5_seen_170 rfl ?_
  refine z_iload (pc := 172) C 8 dX5_seen_172 rfl ?_
  refine z_if_eq (pc := 174) C 181 dX5_seen_174 (by decide) (fun hc1 => ?_) (fun hc1 => ?_)
  · have hf := bb_t hf hc1
    refine z_iconst (pc := 181) C (0 : Int32) dX5_seen_181 (by decide) ?_
    refine z_lv [1, 2, 3, 4, 5, 0, 7] rfl ?_
    exact B_X5_seen_182 C hR hr h R hk73 hf
  · have hf := bb_e hf hc1
    refine z_iconst (pc := 177) C (1 : Int32) dX5_seen_177 (by decide) ?_
    refine z_goto (pc := 178) C 182 dX5_seen_178 (by decide) ?_
    refine z_lv [1, 2, 3, 4, 5, 0, 7] rfl ?_
    exact B_X5_seen_182 C hR hr h R hk73 hf
noncomputable def F_X5_seen_166 (k73 : bb_O → Int32 → Int32 → Int32 → Int32 → Int32 → Int32 → Int32 → Option (Int32 × bb_O)) (s0 : bb_O) (x1 : Int32) (x3 : Int32) (x4 : Int32) (x5 : Int32) (x7 : Int32) (x8 : Int32) (x9 : Int32) (x10 : Int32) : Option (Int32 × bb_O) := F_X5_seen_168 k73 s0 x1 x3 x4 x5 x7 x9 x10 x8
set_option maxHeartbeats 4000000 in
set_option maxRecDepth 100000 in
theorem B_X5_seen_166 {X : bb_X} (C : bb_C X RX5 cX5_seen 12) (hR : bb_r X 6) (hr : X.meth.sig.returnType = (some .int)) (h : Nat → Nat) {z : (Int32 × bb_O)} (R : bb_R X (some (.int z.1)) (wX5 X.cs h z.2)) {k73 : bb_O → Int32 → Int32 → Int32 → Int32 → Int32 → Int32 → Int32 → Option (Int32 × bb_O)} (hk73 : ∀ (s0 : bb_O) (x1 : Int32) (x3 : Int32) (x4 : Int32) (x5 : Int32) (x7 : Int32) (x8 : Int32) (x9 : Int32), k73 s0 x1 x3 x4 x5 x7 x8 x9 = some z → bb_Z X 12 (wX5 X.cs h s0) 73 [(0, .ref (h 0)), (1, .int x1), (3, .int x3), (4, .int x4), (5, .int x5), (7, .int x7), (8, .int x8), (9, .int x9)] []) {s0 : bb_O} {x1 : Int32} {x3 : Int32} {x4 : Int32} {x5 : Int32} {x7 : Int32} {x8 : Int32} {x9 : Int32} {x10 : Int32} (hf : F_X5_seen_166 k73 s0 x1 x3 x4 x5 x7 x8 x9 x10 = some z) : bb_Z X 12 (wX5 X.cs h s0) 166 [(0, .ref (h 0)), (1, .int x1), (3, .int x3), (4, .int x4), (5, .int x5), (7, .int x7), (8, .int x8), (9, .int x9), (10, .int x10)] [] := by
  refine z_iload (pc := 166) C 6 dX5_seen_166 rfl ?_
  refine z_lv [0, 1, 2, 3, 4, 5, 7, 8] rfl ?_
  exact B_X5_seen_168 C hR hr h R hk73 hf
noncomputable def F_X5_seen_143 (k73 : bb_O → Int32 → Int32 → Int32 → Int32 → Int32 → Int32 → Int32 → Option (Int32 × bb_O)) (k96 : bb_O → Int32 → Int32 → Int32 → Int32 → Int32 → Int32 → Int32 → Int32 → Int32 → Option (Int32 × bb_O)) (s0 : bb_O) (x1 : Int32) (x3 : Int32) (x4 : Int32) (x5 : Int32) (x7 : Int32) (x8 : Int32) (x9 : Int32) (x11 : Int32) (y0 : Int32) : Option (Int32 × bb_O) := k96 s0 x1 x3 x4 x5 x7 x8 x9 y0 (x11 + 1)
set_option maxHeartbeats 4000000 in
set_option maxRecDepth 100000 in
theorem B_X5_seen_143 {X : bb_X} (C : bb_C X RX5 cX5_seen 12) (hR : bb_r X 6) (hr : X.meth.sig.returnType = (some .int)) (h : Nat → Nat) {z : (Int32 × bb_O)} (R : bb_R X (some (.int z.1)) (wX5 X.cs h z.2)) {k73 : bb_O → Int32 → Int32 → Int32 → Int32 → Int32 → Int32 → Int32 → Option (Int32 × bb_O)} (hk73 : ∀ (s0 : bb_O) (x1 : Int32) (x3 : Int32) (x4 : Int32) (x5 : Int32) (x7 : Int32) (x8 : Int32) (x9 : Int32), k73 s0 x1 x3 x4 x5 x7 x8 x9 = some z → bb_Z X 12 (wX5 X.cs h s0) 73 [(0, .ref (h 0)), (1, .int x1), (3, .int x3), (4, .int x4), (5, .int x5), (7, .int x7), (8, .int x8), (9, .int x9)] []) {k96 : bb_O → Int32 → Int32 → Int32 → Int32 → Int32 → Int32 → Int32 → Int32 → Int32 → Option (Int32 × bb_O)} (hk96 : ∀ (s0 : bb_O) (x1 : Int32) (x3 : Int32) (x4 : Int32) (x5 : Int32) (x7 : Int32) (x8 : Int32) (x9 : Int32) (x10 : Int32) (x11 : Int32), k96 s0 x1 x3 x4 x5 x7 x8 x9 x10 x11 = some z → bb_Z X 12 (wX5 X.cs h s0) 96 [(0, .ref (h 0)), (1, .int x1), (3, .int x3), (4, .int x4), (5, .int x5), (7, .int x7), (8, .int x8), (9, .int x9), (10, .int x10), (11, .int x11)] []) {s0 : bb_O} {x1 : Int32} {x3 : Int32} {x4 : Int32} {x5 : Int32} {x7 : Int32} {x8 : Int32} {x9 : Int32} {x11 : Int32} {y0 : Int32} (hf : F_X5_seen_143 k73 k96 s0 x1 x3 x4 x5 x7 x8 x9 x11 y0 = some z) : bb_Z X 12 (wX5 X.cs h s0) 143 [(0, .ref (h 0)), (1, .int x1), (3, .int x3), (4, .int x4), (5, .int x5), (7, .int x7), (8, .int x8), (9, .int x9), (11, .int x11)] [.int y0] := by
  refine z_istore (pc := 143) (lv' := [(10, .int y0), (0, .ref (h 0)), (1, .int x1), (3, .int x3), (4, .int x4), (5, .int x5), (7, .int x7), (8, .int x8), (9, .int x9), (11, .int x11)]) C dX5_seen_143 (by decide) rfl ?_
  refine z_iinc (pc := 145) (lv' := [(11, .int (x11 + 1)), (10, .int y0), (0, .ref (h 0)), (1, .int x1), (3, .int x3), (4, .int x4), (5, .int x5), (7, .int x7), (8, .int x8), (9, .int x9)]) C (x11 + 1) 9 dX5_seen_145 rfl rfl (by decide) rfl ?_
  refine z_goto (pc := 148) C 96 dX5_seen_148 (by decide) ?_
  refine z_lv [2, 3, 4, 5, 6, 7, 8, 9, 1, 0] rfl ?_
  exact hk96 _ _ _ _ _ _ _ _ _ _ hf
noncomputable def F_X5_seen_142 (k73 : bb_O → Int32 → Int32 → Int32 → Int32 → Int32 → Int32 → Int32 → Option (Int32 × bb_O)) (k96 : bb_O → Int32 → Int32 → Int32 → Int32 → Int32 → Int32 → Int32 → Int32 → Int32 → Option (Int32 × bb_O)) (s0 : bb_O) (x1 : Int32) (x3 : Int32) (x4 : Int32) (x5 : Int32) (x7 : Int32) (x8 : Int32) (x9 : Int32) (x11 : Int32) : Option (Int32 × bb_O) := F_X5_seen_143 k73 k96 s0 x1 x3 x4 x5 x7 x8 x9 x11 ((0 : Int32))
set_option maxHeartbeats 4000000 in
set_option maxRecDepth 100000 in
theorem B_X5_seen_142 {X : bb_X} (C : bb_C X RX5 cX5_seen 12) (hR : bb_r X 6) (hr : X.meth.sig.returnType = (some .int)) (h : Nat → Nat) {z : (Int32 × bb_O)} (R : bb_R X (some (.int z.1)) (wX5 X.cs h z.2)) {k73 : bb_O → Int32 → Int32 → Int32 → Int32 → Int32 → Int32 → Int32 → Option (Int32 × bb_O)} (hk73 : ∀ (s0 : bb_O) (x1 : Int32) (x3 : Int32) (x4 : Int32) (x5 : Int32) (x7 : Int32) (x8 : Int32) (x9 : Int32), k73 s0 x1 x3 x4 x5 x7 x8 x9 = some z → bb_Z X 12 (wX5 X.cs h s0) 73 [(0, .ref (h 0)), (1, .int x1), (3, .int x3), (4, .int x4), (5, .int x5), (7, .int x7), (8, .int x8), (9, .int x9)] []) {k96 : bb_O → Int32 → Int32 → Int32 → Int32 → Int32 → Int32 → Int32 → Int32 → Int32 → Option (Int32 × bb_O)} (hk96 : ∀ (s0 : bb_O) (x1 : Int32) (x3 : Int32) (x4 : Int32) (x5 : Int32) (x7 : Int32) (x8 : Int32) (x9 : Int32) (x10 : Int32) (x11 : Int32), k96 s0 x1 x3 x4 x5 x7 x8 x9 x10 x11 = some z → bb_Z X 12 (wX5 X.cs h s0) 96 [(0, .ref (h 0)), (1, .int x1), (3, .int x3), (4, .int x4), (5, .int x5), (7, .int x7), (8, .int x8), (9, .int x9), (10, .int x10), (11, .int x11)] []) {s0 : bb_O} {x1 : Int32} {x3 : Int32} {x4 : Int32} {x5 : Int32} {x7 : Int32} {x8 : Int32} {x9 : Int32} {x11 : Int32} (hf : F_X5_seen_142 k73 k96 s0 x1 x3 x4 x5 x7 x8 x9 x11 = some z) : bb_Z X 12 (wX5 X.cs h s0) 142 [(0, .ref (h 0)), (1, .int x1), (3, .int x3), (4, .int x4), (5, .int x5), (7, .int x7), (8, .int x8), (9, .int x9), (11, .int x11)] [] := by
  refine z_iconst (pc := 142) C (0 : Int32) dX5_seen_142 (by decide) ?_
  exact B_X5_seen_143 C hR hr h R hk73 hk96 hf
noncomputable def F_X5_seen_108 (k73 : bb_O → Int32 → Int32 → Int32 → Int32 → Int32 → Int32 → Int32 → Option (Int32 × bb_O)) (k96 : bb_O → Int32 → Int32 → Int32 → Int32 → Int32 → Int32 → Int32 → Int32 → Int32 → Option (Int32 × bb_O)) (s0 : bb_O) (x1 : Int32) (x3 : Int32) (x4 : Int32) (x5 : Int32) (x7 : Int32) (x8 : Int32) (x9 : Int32) (x10 : Int32) (x11 : Int32) : Option (Int32 × bb_O) := if x10 = 0 then (F_X5_seen_142 k73 k96 s0 x1 x3 x4 x5 x7 x8 x9 x11) else (bb_g (vp_in (((((24 : Int32)) * x1) + x3) + x11) 96) (if (lg_cmp ((s0.2.1 0 3).toInt64) (s0.2.2 16 (((((24 : Int32)) * x1) + x3) + x11).toNatClampNeg)) = 0 then (F_X5_seen_143 k73 k96 s0 x1 x3 x4 x5 x7 x8 x9 x11 ((1 : Int32))) else (F_X5_seen_142 k73 k96 s0 x1 x3 x4 x5 x7 x8 x9 x11)))
set_option maxHeartbeats 4000000 in
set_option maxRecDepth 100000 in
theorem B_X5_seen_108 {X : bb_X} (C : bb_C X RX5 cX5_seen 12) (hR : bb_r X 6) (hr : X.meth.sig.returnType = (some .int)) (h : Nat → Nat) {z : (Int32 × bb_O)} (R : bb_R X (some (.int z.1)) (wX5 X.cs h z.2)) {k73 : bb_O → Int32 → Int32 → Int32 → Int32 → Int32 → Int32 → Int32 → Option (Int32 × bb_O)} (hk73 : ∀ (s0 : bb_O) (x1 : Int32) (x3 : Int32) (x4 : Int32) (x5 : Int32) (x7 : Int32) (x8 : Int32) (x9 : Int32), k73 s0 x1 x3 x4 x5 x7 x8 x9 = some z → bb_Z X 12 (wX5 X.cs h s0) 73 [(0, .ref (h 0)), (1, .int x1), (3, .int x3), (4, .int x4), (5, .int x5), (7, .int x7), (8, .int x8), (9, .int x9)] []) {k96 : bb_O → Int32 → Int32 → Int32 → Int32 → Int32 → Int32 → Int32 → Int32 → Int32 → Option (Int32 × bb_O)} (hk96 : ∀ (s0 : bb_O) (x1 : Int32) (x3 : Int32) (x4 : Int32) (x5 : Int32) (x7 : Int32) (x8 : Int32) (x9 : Int32) (x10 : Int32) (x11 : Int32), k96 s0 x1 x3 x4 x5 x7 x8 x9 x10 x11 = some z → bb_Z X 12 (wX5 X.cs h s0) 96 [(0, .ref (h 0)), (1, .int x1), (3, .int x3), (4, .int x4), (5, .int x5), (7, .int x7), (8, .int x8), (9, .int x9), (10, .int x10), (11, .int x11)] []) {s0 : bb_O} {x1 : Int32} {x3 : Int32} {x4 : Int32} {x5 : Int32} {x7 : Int32} {x8 : Int32} {x9 : Int32} {x10 : Int32} {x11 : Int32} (hf : F_X5_seen_108 k73 k96 s0 x1 x3 x4 x5 x7 x8 x9 x10 x11 = some z) : bb_Z X 12 (wX5 X.cs h s0) 108 [(0, .ref (h 0)), (1, .int x1), (3, .int x3), (4, .int x4), (5, .int x5), (7, .int x7), (8, .int x8), (9, .int x9), (10, .int x10), (11, .int x11)] [] := by
  refine z_iload (pc := 108) C 8 dX5_seen_108 rfl ?_
  refine z_if_eq (pc := 110) C 142 dX5_seen_110 (by decide) (fun hc1 => ?_) (fun hc1 => ?_)
  · have hf := bb_t hf hc1
    refine z_lv [0, 1, 2, 3, 4, 5, 6, 7, 9] rfl ?_
    exact B_X5_seen_142 C hR hr h R hk73 hk96 hf
  · have hf := bb_e hf hc1
    refine z_aload_n (pc := 113) (i := 0) C 0 dX5_seen_113 rfl rfl ?_
    refine z_get (pc := 114) (ci := 5) C (.ref (h 1)) bi_X5 rfl 0 0 (by decide) rfl bf_X5_7 rfl rfl dX5_seen_114 ?_
    refine z_iconst (pc := 117) C (3 : Int32) dX5_seen_117 (by decide) ?_
    refine z_iald (pc := 118) C 1 0 (3) rfl rfl (show ¬ ((3 : Int32) < 0 ∨ 39 ≤ (3 : Int32).toNatClampNeg) by decide) (by decide) dX5_seen_118 ?_
    refine z_i2l (pc := 119) C dX5_seen_119 ?_
    refine z_aload_n (pc := 120) (i := 0) C 0 dX5_seen_120 rfl rfl ?_
    refine z_get (pc := 121) (ci := 5) C (.ref (h 17)) bi_X5 rfl 0 16 (by decide) rfl bf_X5_34 rfl rfl dX5_seen_121 ?_
    refine z_bipush (pc := 124) C (24 : Int32) dX5_seen_124 (by decide) ?_
    refine z_iload_n (pc := 126) (i := 1) C 1 dX5_seen_126 rfl rfl ?_
    refine z_imul (pc := 127) C dX5_seen_127 ?_
    refine z_iload_n (pc := 128) (i := 3) C 2 dX5_seen_128 rfl rfl ?_
    refine z_iadd (pc := 129) C dX5_seen_129 ?_
    refine z_iload (pc := 130) C 9 dX5_seen_130 rfl ?_
    refine z_iadd (pc := 132) C dX5_seen_132 ?_
    obtain ⟨hv2, hf⟩ := bb_g_some hf
    refine z_lald (pc := 133) C 9 1 ((((((24 : Int32)) * x1) + x3) + x11).toNatClampNeg) rfl rfl hv2 rfl dX5_seen_133 ?_
    refine z_lcmp (pc := 134) C dX5_seen_134 ?_
    refine z_if_ne (pc := 135) C 142 dX5_seen_135 (by decide) (fun hc3 => ?_) (fun hc3 => ?_)
    · have hf := bb_e hf hc3
      refine z_lv [0, 1, 2, 3, 4, 5, 6, 7, 9] rfl ?_
      exact B_X5_seen_142 C hR hr h R hk73 hk96 hf
    · have hf := bb_t hf hc3
      refine z_iconst (pc := 138) C (1 : Int32) dX5_seen_138 (by decide) ?_
      refine z_goto (pc := 139) C 143 dX5_seen_139 (by decide) ?_
      refine z_lv [0, 1, 2, 3, 4, 5, 6, 7, 9] rfl ?_
      exact B_X5_seen_143 C hR hr h R hk73 hk96 hf
noncomputable def G_X5_seen_96 (k73 : bb_O → Int32 → Int32 → Int32 → Int32 → Int32 → Int32 → Int32 → Option (Int32 × bb_O)) (k96 : bb_O → Int32 → Int32 → Int32 → Int32 → Int32 → Int32 → Int32 → Int32 → Int32 → Option (Int32 × bb_O)) (s0 : bb_O) (x1 : Int32) (x3 : Int32) (x4 : Int32) (x5 : Int32) (x7 : Int32) (x8 : Int32) (x9 : Int32) (x10 : Int32) (x11 : Int32) : Option (Int32 × bb_O) := if x4 ≤ x11 then (if x10 = 0 then (F_X5_seen_166 k73 s0 x1 x3 x4 x5 x7 x8 x9 x10) else (if x7 = 0 then (F_X5_seen_168 k73 s0 x1 x3 x4 x5 x7 x9 x10 x9) else (F_X5_seen_166 k73 s0 x1 x3 x4 x5 x7 x8 x9 x10))) else ((F_X5_goesBy_0 s0).bind (fun q4 => F_X5_seen_108 k73 k96 q4.2 x1 x3 x4 x5 x7 x8 x9 x10 x11))
noncomputable def F_X5_seen_96 (k73 : bb_O → Int32 → Int32 → Int32 → Int32 → Int32 → Int32 → Int32 → Option (Int32 × bb_O)) : Nat → bb_O → Int32 → Int32 → Int32 → Int32 → Int32 → Int32 → Int32 → Int32 → Int32 → Option (Int32 × bb_O)
  | 0, _, _, _, _, _, _, _, _, _, _ => none
  | n + 1, s0, x1, x3, x4, x5, x7, x8, x9, x10, x11 => G_X5_seen_96 k73 (F_X5_seen_96 k73 n) s0 x1 x3 x4 x5 x7 x8 x9 x10 x11
set_option maxHeartbeats 4000000 in
set_option maxRecDepth 100000 in
theorem A_X5_seen_96 {X : bb_X} (C : bb_C X RX5 cX5_seen 12) (hR : bb_r X 6) (hr : X.meth.sig.returnType = (some .int)) (h : Nat → Nat) {z : (Int32 × bb_O)} (R : bb_R X (some (.int z.1)) (wX5 X.cs h z.2)) {k73 : bb_O → Int32 → Int32 → Int32 → Int32 → Int32 → Int32 → Int32 → Option (Int32 × bb_O)} (hk73 : ∀ (s0 : bb_O) (x1 : Int32) (x3 : Int32) (x4 : Int32) (x5 : Int32) (x7 : Int32) (x8 : Int32) (x9 : Int32), k73 s0 x1 x3 x4 x5 x7 x8 x9 = some z → bb_Z X 12 (wX5 X.cs h s0) 73 [(0, .ref (h 0)), (1, .int x1), (3, .int x3), (4, .int x4), (5, .int x5), (7, .int x7), (8, .int x8), (9, .int x9)] []) {k96 : bb_O → Int32 → Int32 → Int32 → Int32 → Int32 → Int32 → Int32 → Int32 → Int32 → Option (Int32 × bb_O)} (hk96 : ∀ (s0 : bb_O) (x1 : Int32) (x3 : Int32) (x4 : Int32) (x5 : Int32) (x7 : Int32) (x8 : Int32) (x9 : Int32) (x10 : Int32) (x11 : Int32), k96 s0 x1 x3 x4 x5 x7 x8 x9 x10 x11 = some z → bb_Z X 12 (wX5 X.cs h s0) 96 [(0, .ref (h 0)), (1, .int x1), (3, .int x3), (4, .int x4), (5, .int x5), (7, .int x7), (8, .int x8), (9, .int x9), (10, .int x10), (11, .int x11)] []) {s0 : bb_O} {x1 : Int32} {x3 : Int32} {x4 : Int32} {x5 : Int32} {x7 : Int32} {x8 : Int32} {x9 : Int32} {x10 : Int32} {x11 : Int32} (hf : G_X5_seen_96 k73 k96 s0 x1 x3 x4 x5 x7 x8 x9 x10 x11 = some z) : bb_Z X 12 (wX5 X.cs h s0) 96 [(0, .ref (h 0)), (1, .int x1), (3, .int x3), (4, .int x4), (5, .int x5), (7, .int x7), (8, .int x8), (9, .int x9), (10, .int x10), (11, .int x11)] [] := by
  refine z_iload (pc := 96) C 9 dX5_seen_96 rfl ?_
  refine z_iload (pc := 98) C 3 dX5_seen_98 rfl ?_
  refine z_icmp_ge (pc := 100) C 151 dX5_seen_100 (by decide) (fun hc1 => ?_) (fun hc1 => ?_)
  · have hf := bb_t hf hc1
    refine z_iload (pc := 151) C 8 dX5_seen_151 rfl ?_
    refine z_if_eq (pc := 153) C 166 dX5_seen_153 (by decide) (fun hc2 => ?_) (fun hc2 => ?_)
    · have hf := bb_t hf hc2
      refine z_lv [0, 1, 2, 3, 4, 5, 6, 7, 8] rfl ?_
      exact B_X5_seen_166 C hR hr h R hk73 hf
    · have hf := bb_e hf hc2
      refine z_iload (pc := 156) C 5 dX5_seen_156 rfl ?_
      refine z_if_ne (pc := 158) C 166 dX5_seen_158 (by decide) (fun hc3 => ?_) (fun hc3 => ?_)
      · have hf := bb_e hf hc3
        refine z_lv [0, 1, 2, 3, 4, 5, 6, 7, 8] rfl ?_
        exact B_X5_seen_166 C hR hr h R hk73 hf
      · have hf := bb_t hf hc3
        refine z_iload (pc := 161) C 7 dX5_seen_161 rfl ?_
        refine z_goto (pc := 163) C 168 dX5_seen_163 (by decide) ?_
        refine z_lv [0, 1, 2, 3, 4, 5, 7, 8] rfl ?_
        exact B_X5_seen_168 C hR hr h R hk73 hf
  · have hf := bb_e hf hc1
    refine z_aload_n (pc := 103) (i := 0) C 0 dX5_seen_103 rfl rfl ?_
    obtain ⟨q4, hq4, hf⟩ := bb_b_some hf
    refine z_callVi (pc := 104) (ci := 5) (q0 := 0) (As := []) (rest := []) (ws' := wX5 X.cs h q4.2) C (hR.le (by decide)) (c_X5_goesBy h hq4) (bb_cut_self _ _) bv_X5_goesBy bm_X5_155 rfl rfl rfl rfl (Nat.le_of_ble_eq_true rfl) dX5_seen_104 ?_
    refine z_pop (pc := 107) C dX5_seen_107 rfl ?_
    exact B_X5_seen_108 C hR hr h R hk73 hk96 hf
theorem B_X5_seen_96 {X : bb_X} (C : bb_C X RX5 cX5_seen 12) (hR : bb_r X 6) (hr : X.meth.sig.returnType = (some .int)) (h : Nat → Nat) {z : (Int32 × bb_O)} (R : bb_R X (some (.int z.1)) (wX5 X.cs h z.2)) {k73 : bb_O → Int32 → Int32 → Int32 → Int32 → Int32 → Int32 → Int32 → Option (Int32 × bb_O)} (hk73 : ∀ (s0 : bb_O) (x1 : Int32) (x3 : Int32) (x4 : Int32) (x5 : Int32) (x7 : Int32) (x8 : Int32) (x9 : Int32), k73 s0 x1 x3 x4 x5 x7 x8 x9 = some z → bb_Z X 12 (wX5 X.cs h s0) 73 [(0, .ref (h 0)), (1, .int x1), (3, .int x3), (4, .int x4), (5, .int x5), (7, .int x7), (8, .int x8), (9, .int x9)] []) : ∀ (n : Nat) (s0 : bb_O) (x1 : Int32) (x3 : Int32) (x4 : Int32) (x5 : Int32) (x7 : Int32) (x8 : Int32) (x9 : Int32) (x10 : Int32) (x11 : Int32), F_X5_seen_96 k73 n s0 x1 x3 x4 x5 x7 x8 x9 x10 x11 = some z → bb_Z X 12 (wX5 X.cs h s0) 96 [(0, .ref (h 0)), (1, .int x1), (3, .int x3), (4, .int x4), (5, .int x5), (7, .int x7), (8, .int x8), (9, .int x9), (10, .int x10), (11, .int x11)] [] := by
  intro n
  induction n with
  | zero =>
    intro s0 x1 x3 x4 x5 x7 x8 x9 x10 x11 hf
    cases hf
  | succ n ih =>
    intro s0 x1 x3 x4 x5 x7 x8 x9 x10 x11 hf
    exact A_X5_seen_96 C hR hr h R hk73 ih hf
noncomputable def F_X5_seen_90 (k73 : bb_O → Int32 → Int32 → Int32 → Int32 → Int32 → Int32 → Int32 → Option (Int32 × bb_O)) (s0 : bb_O) (x1 : Int32) (x3 : Int32) (x4 : Int32) (x5 : Int32) (x7 : Int32) (x8 : Int32) (x9 : Int32) : Option (Int32 × bb_O) := F_X5_seen_96 k73 bb_N s0 x1 x3 x4 x5 x7 x8 x9 ((1 : Int32)) ((0 : Int32))
set_option maxHeartbeats 4000000 in
set_option maxRecDepth 100000 in
theorem B_X5_seen_90 {X : bb_X} (C : bb_C X RX5 cX5_seen 12) (hR : bb_r X 6) (hr : X.meth.sig.returnType = (some .int)) (h : Nat → Nat) {z : (Int32 × bb_O)} (R : bb_R X (some (.int z.1)) (wX5 X.cs h z.2)) {k73 : bb_O → Int32 → Int32 → Int32 → Int32 → Int32 → Int32 → Int32 → Option (Int32 × bb_O)} (hk73 : ∀ (s0 : bb_O) (x1 : Int32) (x3 : Int32) (x4 : Int32) (x5 : Int32) (x7 : Int32) (x8 : Int32) (x9 : Int32), k73 s0 x1 x3 x4 x5 x7 x8 x9 = some z → bb_Z X 12 (wX5 X.cs h s0) 73 [(0, .ref (h 0)), (1, .int x1), (3, .int x3), (4, .int x4), (5, .int x5), (7, .int x7), (8, .int x8), (9, .int x9)] []) {s0 : bb_O} {x1 : Int32} {x3 : Int32} {x4 : Int32} {x5 : Int32} {x7 : Int32} {x8 : Int32} {x9 : Int32} (hf : F_X5_seen_90 k73 s0 x1 x3 x4 x5 x7 x8 x9 = some z) : bb_Z X 12 (wX5 X.cs h s0) 90 [(0, .ref (h 0)), (1, .int x1), (3, .int x3), (4, .int x4), (5, .int x5), (7, .int x7), (8, .int x8), (9, .int x9)] [] := by
  refine z_iconst (pc := 90) C (1 : Int32) dX5_seen_90 (by decide) ?_
  refine z_istore (pc := 91) (lv' := [(10, .int ((1 : Int32))), (0, .ref (h 0)), (1, .int x1), (3, .int x3), (4, .int x4), (5, .int x5), (7, .int x7), (8, .int x8), (9, .int x9)]) C dX5_seen_91 (by decide) rfl ?_
  refine z_iconst (pc := 93) C (0 : Int32) dX5_seen_93 (by decide) ?_
  refine z_istore (pc := 94) (lv' := [(11, .int ((0 : Int32))), (10, .int ((1 : Int32))), (0, .ref (h 0)), (1, .int x1), (3, .int x3), (4, .int x4), (5, .int x5), (7, .int x7), (8, .int x8), (9, .int x9)]) C dX5_seen_94 (by decide) rfl ?_
  refine z_lv [2, 3, 4, 5, 6, 7, 8, 9, 1, 0] rfl ?_
  exact B_X5_seen_96 C hR hr h R hk73 bb_N _ _ _ _ _ _ _ _ _ _ hf
noncomputable def G_X5_seen_73 (k73 : bb_O → Int32 → Int32 → Int32 → Int32 → Int32 → Int32 → Int32 → Option (Int32 × bb_O)) (s0 : bb_O) (x1 : Int32) (x3 : Int32) (x4 : Int32) (x5 : Int32) (x7 : Int32) (x8 : Int32) (x9 : Int32) : Option (Int32 × bb_O) := (F_X5_cells_0 s0).bind (fun q1 => if q1 ≤ x9 then (if x5 = 0 then (F_X5_seen_207 s0 x7) else (F_X5_seen_207 s0 x8)) else (F_X5_seen_90 k73 (bb_sA s0 0 (upd (s0.2.1 0) 3 x9)) x1 x3 x4 x5 x7 x8 x9))
noncomputable def F_X5_seen_73  : Nat → bb_O → Int32 → Int32 → Int32 → Int32 → Int32 → Int32 → Int32 → Option (Int32 × bb_O)
  | 0, _, _, _, _, _, _, _, _ => none
  | n + 1, s0, x1, x3, x4, x5, x7, x8, x9 => G_X5_seen_73  (F_X5_seen_73  n) s0 x1 x3 x4 x5 x7 x8 x9
set_option maxHeartbeats 4000000 in
set_option maxRecDepth 100000 in
theorem A_X5_seen_73 {X : bb_X} (C : bb_C X RX5 cX5_seen 12) (hR : bb_r X 6) (hr : X.meth.sig.returnType = (some .int)) (h : Nat → Nat) {z : (Int32 × bb_O)} (R : bb_R X (some (.int z.1)) (wX5 X.cs h z.2)) {k73 : bb_O → Int32 → Int32 → Int32 → Int32 → Int32 → Int32 → Int32 → Option (Int32 × bb_O)} (hk73 : ∀ (s0 : bb_O) (x1 : Int32) (x3 : Int32) (x4 : Int32) (x5 : Int32) (x7 : Int32) (x8 : Int32) (x9 : Int32), k73 s0 x1 x3 x4 x5 x7 x8 x9 = some z → bb_Z X 12 (wX5 X.cs h s0) 73 [(0, .ref (h 0)), (1, .int x1), (3, .int x3), (4, .int x4), (5, .int x5), (7, .int x7), (8, .int x8), (9, .int x9)] []) {s0 : bb_O} {x1 : Int32} {x3 : Int32} {x4 : Int32} {x5 : Int32} {x7 : Int32} {x8 : Int32} {x9 : Int32} (hf : G_X5_seen_73 k73 s0 x1 x3 x4 x5 x7 x8 x9 = some z) : bb_Z X 12 (wX5 X.cs h s0) 73 [(0, .ref (h 0)), (1, .int x1), (3, .int x3), (4, .int x4), (5, .int x5), (7, .int x7), (8, .int x8), (9, .int x9)] [] := by
  refine z_iload (pc := 73) C 7 dX5_seen_73 rfl ?_
  refine z_aload_n (pc := 75) (i := 0) C 0 dX5_seen_75 rfl rfl ?_
  obtain ⟨q1, hq1, hf⟩ := bb_b_some hf
  refine z_callVi (pc := 76) (ci := 5) (q0 := 0) (As := []) (rest := [.int x9]) C (hR.le (by decide)) (c_X5_cells h hq1) (bb_cut_self _ _) bv_X5_cells bm_X5_93 rfl rfl rfl rfl (Nat.le_of_ble_eq_true rfl) dX5_seen_76 ?_
  refine z_icmp_ge (pc := 79) C 195 dX5_seen_79 (by decide) (fun hc2 => ?_) (fun hc2 => ?_)
  · have hf := bb_t hf hc2
    refine z_iload (pc := 195) C 4 dX5_seen_195 rfl ?_
    refine z_if_ne (pc := 197) C 205 dX5_seen_197 (by decide) (fun hc3 => ?_) (fun hc3 => ?_)
    · have hf := bb_e hf hc3
      refine z_iload (pc := 205) C 6 dX5_seen_205 rfl ?_
      refine z_lv [] rfl ?_
      exact B_X5_seen_207 C hR hr h R  hf
    · have hf := bb_t hf hc3
      refine z_iload (pc := 200) C 5 dX5_seen_200 rfl ?_
      refine z_goto (pc := 202) C 207 dX5_seen_202 (by decide) ?_
      refine z_lv [] rfl ?_
      exact B_X5_seen_207 C hR hr h R  hf
  · have hf := bb_e hf hc2
    refine z_aload_n (pc := 82) (i := 0) C 0 dX5_seen_82 rfl rfl ?_
    refine z_get (pc := 83) (ci := 5) C (.ref (h 1)) bi_X5 rfl 0 0 (by decide) rfl bf_X5_7 rfl rfl dX5_seen_83 ?_
    refine z_iconst (pc := 86) C (3 : Int32) dX5_seen_86 (by decide) ?_
    refine z_iload (pc := 87) C 7 dX5_seen_87 rfl ?_
    refine z_iast (pc := 89) (ws' := wX5 X.cs h (bb_sA s0 0 (upd (s0.2.1 0) 3 x9))) C 1 0 (3) rfl rfl (show ¬ ((3 : Int32) < 0 ∨ 39 ≤ (3 : Int32).toNatClampNeg) by decide) (by decide) rfl dX5_seen_89 ?_
    exact B_X5_seen_90 C hR hr h R hk73 hf
theorem B_X5_seen_73 {X : bb_X} (C : bb_C X RX5 cX5_seen 12) (hR : bb_r X 6) (hr : X.meth.sig.returnType = (some .int)) (h : Nat → Nat) {z : (Int32 × bb_O)} (R : bb_R X (some (.int z.1)) (wX5 X.cs h z.2)) : ∀ (n : Nat) (s0 : bb_O) (x1 : Int32) (x3 : Int32) (x4 : Int32) (x5 : Int32) (x7 : Int32) (x8 : Int32) (x9 : Int32), F_X5_seen_73  n s0 x1 x3 x4 x5 x7 x8 x9 = some z → bb_Z X 12 (wX5 X.cs h s0) 73 [(0, .ref (h 0)), (1, .int x1), (3, .int x3), (4, .int x4), (5, .int x5), (7, .int x7), (8, .int x8), (9, .int x9)] [] := by
  intro n
  induction n with
  | zero =>
    intro s0 x1 x3 x4 x5 x7 x8 x9 hf
    cases hf
  | succ n ih =>
    intro s0 x1 x3 x4 x5 x7 x8 x9 hf
    exact A_X5_seen_73 C hR hr h R  ih hf
noncomputable def F_X5_seen_70 (s0 : bb_O) (x1 : Int32) (x3 : Int32) (x4 : Int32) (x5 : Int32) (x7 : Int32) (x8 : Int32) : Option (Int32 × bb_O) := F_X5_seen_73 bb_N s0 x1 x3 x4 x5 x7 x8 ((0 : Int32))
set_option maxHeartbeats 4000000 in
set_option maxRecDepth 100000 in
theorem B_X5_seen_70 {X : bb_X} (C : bb_C X RX5 cX5_seen 12) (hR : bb_r X 6) (hr : X.meth.sig.returnType = (some .int)) (h : Nat → Nat) {z : (Int32 × bb_O)} (R : bb_R X (some (.int z.1)) (wX5 X.cs h z.2)) {s0 : bb_O} {x1 : Int32} {x3 : Int32} {x4 : Int32} {x5 : Int32} {x7 : Int32} {x8 : Int32} (hf : F_X5_seen_70 s0 x1 x3 x4 x5 x7 x8 = some z) : bb_Z X 12 (wX5 X.cs h s0) 70 [(0, .ref (h 0)), (1, .int x1), (3, .int x3), (4, .int x4), (5, .int x5), (7, .int x7), (8, .int x8)] [] := by
  refine z_iconst (pc := 70) C (0 : Int32) dX5_seen_70 (by decide) ?_
  refine z_istore (pc := 71) (lv' := [(9, .int ((0 : Int32))), (0, .ref (h 0)), (1, .int x1), (3, .int x3), (4, .int x4), (5, .int x5), (7, .int x7), (8, .int x8)]) C dX5_seen_71 (by decide) rfl ?_
  refine z_lv [1, 2, 3, 4, 5, 6, 7, 0] rfl ?_
  exact B_X5_seen_73 C hR hr h R  bb_N _ _ _ _ _ _ _ _ hf
noncomputable def F_X5_seen_0 (s0 : bb_O) (x1 : Int32) (x2 : Int32) (x3 : Int32) (x4 : Int32) (x5 : Int32) : Option (Int32 × bb_O) := (F_X5_isSheet_0 x1).bind (fun q1 => if q1 = 0 then (F_X5_seen_38 s0) else ((F_X5_isLane_0 x2).bind (fun q3 => if q3 = 0 then (F_X5_seen_38 s0) else ((F_X5_in_0 (x4.toInt64) ((1 : Int64)) ((8 : Int64))).bind (fun q5 => if q5 = 0 then (F_X5_seen_38 s0) else ((F_X5_in_0 (x5.toInt64) ((0 : Int64)) ((1 : Int64))).bind (fun q7 => if q7 = 0 then (F_X5_seen_38 s0) else ((F_X5_why_0 s0 x1 x2 x3 x4).bind (fun q9 => if 0 ≤ q9 then ((F_X5_asides_0 s0).bind (fun q11 => F_X5_seen_70 q11 x1 x3 x4 x5 ((0 : Int32)) ((-4 : Int32)))) else (some (q9, s0)))))))))))
set_option maxHeartbeats 4000000 in
set_option maxRecDepth 100000 in
theorem B_X5_seen_0 {X : bb_X} (C : bb_C X RX5 cX5_seen 12) (hR : bb_r X 6) (hr : X.meth.sig.returnType = (some .int)) (h : Nat → Nat) {z : (Int32 × bb_O)} (R : bb_R X (some (.int z.1)) (wX5 X.cs h z.2)) {s0 : bb_O} {x1 : Int32} {x2 : Int32} {x3 : Int32} {x4 : Int32} {x5 : Int32} (hf : F_X5_seen_0 s0 x1 x2 x3 x4 x5 = some z) : bb_Z X 12 (wX5 X.cs h s0) 0 [(0, .ref (h 0)), (1, .int x1), (2, .int x2), (3, .int x3), (4, .int x4), (5, .int x5)] [] := by
  refine z_iload_n (pc := 0) (i := 1) C 1 dX5_seen_0 rfl rfl ?_
  obtain ⟨q1, hq1, hf⟩ := bb_b_some hf
  refine z_callSi (pc := 1) (As := [.int x1]) (rest := []) C (hR.le (by decide)) (c_X5_isSheet hq1) (bb_cut_none _) bv_X5_isSheet bm_X5_193 rfl rfl (Nat.le_of_ble_eq_true rfl) dX5_seen_1 ?_
  refine z_if_eq (pc := 4) C 38 dX5_seen_4 (by decide) (fun hc2 => ?_) (fun hc2 => ?_)
  · have hf := bb_t hf hc2
    refine z_lv [] rfl ?_
    exact B_X5_seen_38 C hR hr h R  hf
  · have hf := bb_e hf hc2
    refine z_iload_n (pc := 7) (i := 2) C 2 dX5_seen_7 rfl rfl ?_
    obtain ⟨q3, hq3, hf⟩ := bb_b_some hf
    refine z_callSi (pc := 8) (As := [.int x2]) (rest := []) C (hR.le (by decide)) (c_X5_isLane hq3) (bb_cut_none _) bv_X5_isLane bm_X5_196 rfl rfl (Nat.le_of_ble_eq_true rfl) dX5_seen_8 ?_
    refine z_if_eq (pc := 11) C 38 dX5_seen_11 (by decide) (fun hc4 => ?_) (fun hc4 => ?_)
    · have hf := bb_t hf hc4
      refine z_lv [] rfl ?_
      exact B_X5_seen_38 C hR hr h R  hf
    · have hf := bb_e hf hc4
      refine z_iload (pc := 14) C 4 dX5_seen_14 rfl ?_
      refine z_i2l (pc := 16) C dX5_seen_16 ?_
      refine z_lconst (pc := 17) C (1 : Int64) dX5_seen_17 (by decide) ?_
      refine z_ldc2_w (pc := 18) C bk_X5_110 dX5_seen_18 ?_
      obtain ⟨q5, hq5, hf⟩ := bb_b_some hf
      refine z_callSi (pc := 21) (As := [.long (x4.toInt64), .long ((1 : Int64)), .long ((8 : Int64))]) (rest := []) C (hR.le (by decide)) (c_X5_in hq5) (bb_cut_none _) bv_X5_in bm_X5_49 rfl rfl (Nat.le_of_ble_eq_true rfl) dX5_seen_21 ?_
      refine z_if_eq (pc := 24) C 38 dX5_seen_24 (by decide) (fun hc6 => ?_) (fun hc6 => ?_)
      · have hf := bb_t hf hc6
        refine z_lv [] rfl ?_
        exact B_X5_seen_38 C hR hr h R  hf
      · have hf := bb_e hf hc6
        refine z_iload (pc := 27) C 5 dX5_seen_27 rfl ?_
        refine z_i2l (pc := 29) C dX5_seen_29 ?_
        refine z_lconst (pc := 30) C (0 : Int64) dX5_seen_30 (by decide) ?_
        refine z_lconst (pc := 31) C (1 : Int64) dX5_seen_31 (by decide) ?_
        obtain ⟨q7, hq7, hf⟩ := bb_b_some hf
        refine z_callSi (pc := 32) (As := [.long (x5.toInt64), .long ((0 : Int64)), .long ((1 : Int64))]) (rest := []) C (hR.le (by decide)) (c_X5_in hq7) (bb_cut_none _) bv_X5_in bm_X5_49 rfl rfl (Nat.le_of_ble_eq_true rfl) dX5_seen_32 ?_
        refine z_if_ne (pc := 35) C 40 dX5_seen_35 (by decide) (fun hc8 => ?_) (fun hc8 => ?_)
        · have hf := bb_e hf hc8
          refine z_aload_n (pc := 40) (i := 0) C 0 dX5_seen_40 rfl rfl ?_
          refine z_iload_n (pc := 41) (i := 1) C 1 dX5_seen_41 rfl rfl ?_
          refine z_iload_n (pc := 42) (i := 2) C 2 dX5_seen_42 rfl rfl ?_
          refine z_iload_n (pc := 43) (i := 3) C 3 dX5_seen_43 rfl rfl ?_
          refine z_iload (pc := 44) C 4 dX5_seen_44 rfl ?_
          obtain ⟨q9, hq9, hf⟩ := bb_b_some hf
          refine z_callVi (pc := 46) (ci := 5) (q0 := 0) (As := [.int x1, .int x2, .int x3, .int x4]) (rest := []) C (hR.le (by decide)) (c_X5_why h hq9) (bb_cut_self _ _) bv_X5_why bm_X5_199 rfl rfl rfl rfl (Nat.le_of_ble_eq_true rfl) dX5_seen_46 ?_
          refine z_istore (pc := 49) (lv' := [(6, .int q9), (0, .ref (h 0)), (1, .int x1), (2, .int x2), (3, .int x3), (4, .int x4), (5, .int x5)]) C dX5_seen_49 (by decide) rfl ?_
          refine z_iload (pc := 51) C 0 dX5_seen_51 rfl ?_
          refine z_if_ge (pc := 53) C 59 dX5_seen_53 (by decide) (fun hc10 => ?_) (fun hc10 => ?_)
          · have hf := bb_t hf hc10
            refine z_iconst (pc := 59) C (0 : Int32) dX5_seen_59 (by decide) ?_
            refine z_istore (pc := 60) (lv' := [(7, .int ((0 : Int32))), (6, .int q9), (0, .ref (h 0)), (1, .int x1), (2, .int x2), (3, .int x3), (4, .int x4), (5, .int x5)]) C dX5_seen_60 (by decide) rfl ?_
            refine z_bipush (pc := 62) C (-4 : Int32) dX5_seen_62 (by decide) ?_
            refine z_istore (pc := 64) (lv' := [(8, .int ((-4 : Int32))), (7, .int ((0 : Int32))), (6, .int q9), (0, .ref (h 0)), (1, .int x1), (2, .int x2), (3, .int x3), (4, .int x4), (5, .int x5)]) C dX5_seen_64 (by decide) rfl ?_
            refine z_aload_n (pc := 66) (i := 0) C 3 dX5_seen_66 rfl rfl ?_
            obtain ⟨q11, hq11, hf⟩ := bb_b_some hf
            refine z_callVv (pc := 67) (ci := 5) (q0 := 0) (As := []) (rest := []) (ws' := wX5 X.cs h q11) C (hR.le (by decide)) (c_X5_asides h hq11) (bb_cut_self _ _) bv_X5_asides bm_X5_173 rfl rfl rfl rfl (Nat.le_of_ble_eq_true rfl) dX5_seen_67 ?_
            refine z_lv [3, 4, 6, 7, 8, 1, 0] rfl ?_
            exact B_X5_seen_70 C hR hr h R  hf
          · have hf := bb_e hf hc10
            refine z_iload (pc := 56) C 0 dX5_seen_56 rfl ?_
            obtain rfl := Option.some.inj hf
            exact z_iret (pc := 58) C hr R dX5_seen_58
        · have hf := bb_t hf hc8
          refine z_lv [] rfl ?_
          exact B_X5_seen_38 C hR hr h R  hf
theorem c_X5_seen {l : Launch} {D : va_G} {cs : Nat → ClassId} (h : Nat → Nat) {s0 : bb_O} {x1 : Int32} {x2 : Int32} {x3 : Int32} {x4 : Int32} {x5 : Int32} {z : (Int32 × bb_O)} (hf : F_X5_seen_0 s0 x1 x2 x3 x4 x5 = some z) : bb_M l yX5_seen cX5_seen 12 (some .int) 6 D cs [.ref (h 0), .int x1, .int x2, .int x3, .int x4, .int x5] (some (.int z.1)) (wX5 cs h s0) (wX5 cs h z.2) := bb_mg (by decide) rfl (Nat.le_of_ble_eq_true rfl) rfl (fun X hl hD hcs C hR hr R => by
  subst hl
  subst hD
  subst hcs
  exact B_X5_seen_0 C hR hr h R hf)
/-! X5_film: writes, level 6 -/
noncomputable def F_X5_film_26 (s0 : bb_O) : Option (Int32 × bb_O) := some ((-1 : Int32), s0)
set_option maxHeartbeats 4000000 in
set_option maxRecDepth 100000 in
theorem B_X5_film_26 {X : bb_X} (C : bb_C X RX5 cX5_film 7) (hR : bb_r X 6) (hr : X.meth.sig.returnType = (some .int)) (h : Nat → Nat) {z : (Int32 × bb_O)} (R : bb_R X (some (.int z.1)) (wX5 X.cs h z.2)) {s0 : bb_O} (hf : F_X5_film_26 s0 = some z) : bb_Z X 7 (wX5 X.cs h s0) 26 [] [] := by
  refine z_iconst (pc := 26) C (-1 : Int32) dX5_film_26 (by decide) ?_
  obtain rfl := Option.some.inj hf
  exact z_iret (pc := 27) C hr R dX5_film_27
noncomputable def F_X5_film_87 (k54 : bb_O → Int32 → Int32 → Int32 → Int32 → Option (Int32 × bb_O)) (s0 : bb_O) (x1 : Int32) (x2 : Int32) (x4 : Int32) (x6 : Int32) : Option (Int32 × bb_O) := k54 s0 x1 x2 x4 (x6 + 1)
set_option maxHeartbeats 4000000 in
set_option maxRecDepth 100000 in
theorem B_X5_film_87 {X : bb_X} (C : bb_C X RX5 cX5_film 7) (hR : bb_r X 6) (hr : X.meth.sig.returnType = (some .int)) (h : Nat → Nat) {z : (Int32 × bb_O)} (R : bb_R X (some (.int z.1)) (wX5 X.cs h z.2)) {k54 : bb_O → Int32 → Int32 → Int32 → Int32 → Option (Int32 × bb_O)} (hk54 : ∀ (s0 : bb_O) (x1 : Int32) (x2 : Int32) (x4 : Int32) (x6 : Int32), k54 s0 x1 x2 x4 x6 = some z → bb_Z X 7 (wX5 X.cs h s0) 54 [(0, .ref (h 0)), (1, .int x1), (2, .int x2), (4, .int x4), (6, .int x6)] []) {s0 : bb_O} {x1 : Int32} {x2 : Int32} {x4 : Int32} {x6 : Int32} (hf : F_X5_film_87 k54 s0 x1 x2 x4 x6 = some z) : bb_Z X 7 (wX5 X.cs h s0) 87 [(0, .ref (h 0)), (1, .int x1), (2, .int x2), (4, .int x4), (6, .int x6)] [] := by
  refine z_iinc (pc := 87) (lv' := [(6, .int (x6 + 1)), (0, .ref (h 0)), (1, .int x1), (2, .int x2), (4, .int x4)]) C (x6 + 1) 4 dX5_film_87 rfl rfl (by decide) rfl ?_
  refine z_goto (pc := 90) C 54 dX5_film_90 (by decide) ?_
  refine z_lv [1, 2, 3, 4, 0] rfl ?_
  exact hk54 _ _ _ _ _ hf
noncomputable def F_X5_film_65 (k54 : bb_O → Int32 → Int32 → Int32 → Int32 → Option (Int32 × bb_O)) (s0 : bb_O) (x1 : Int32) (x2 : Int32) (x4 : Int32) (x6 : Int32) : Option (Int32 × bb_O) := bb_g (vp_in (((((24 : Int32)) * x2) + x4) + x6) 96) (F_X5_film_87 k54 (bb_sB s0 16 (vp_updL (s0.2.2 16) (((((24 : Int32)) * x2) + x4) + x6).toNatClampNeg ((s0.2.1 0 3).toInt64))) x1 x2 x4 x6)
set_option maxHeartbeats 4000000 in
set_option maxRecDepth 100000 in
theorem B_X5_film_65 {X : bb_X} (C : bb_C X RX5 cX5_film 7) (hR : bb_r X 6) (hr : X.meth.sig.returnType = (some .int)) (h : Nat → Nat) {z : (Int32 × bb_O)} (R : bb_R X (some (.int z.1)) (wX5 X.cs h z.2)) {k54 : bb_O → Int32 → Int32 → Int32 → Int32 → Option (Int32 × bb_O)} (hk54 : ∀ (s0 : bb_O) (x1 : Int32) (x2 : Int32) (x4 : Int32) (x6 : Int32), k54 s0 x1 x2 x4 x6 = some z → bb_Z X 7 (wX5 X.cs h s0) 54 [(0, .ref (h 0)), (1, .int x1), (2, .int x2), (4, .int x4), (6, .int x6)] []) {s0 : bb_O} {x1 : Int32} {x2 : Int32} {x4 : Int32} {x6 : Int32} (hf : F_X5_film_65 k54 s0 x1 x2 x4 x6 = some z) : bb_Z X 7 (wX5 X.cs h s0) 65 [(0, .ref (h 0)), (1, .int x1), (2, .int x2), (4, .int x4), (6, .int x6)] [] := by
  refine z_aload_n (pc := 65) (i := 0) C 0 dX5_film_65 rfl rfl ?_
  refine z_get (pc := 66) (ci := 5) C (.ref (h 17)) bi_X5 rfl 0 16 (by decide) rfl bf_X5_34 rfl rfl dX5_film_66 ?_
  refine z_bipush (pc := 69) C (24 : Int32) dX5_film_69 (by decide) ?_
  refine z_iload_n (pc := 71) (i := 2) C 2 dX5_film_71 rfl rfl ?_
  refine z_imul (pc := 72) C dX5_film_72 ?_
  refine z_iload (pc := 73) C 3 dX5_film_73 rfl ?_
  refine z_iadd (pc := 75) C dX5_film_75 ?_
  refine z_iload (pc := 76) C 4 dX5_film_76 rfl ?_
  refine z_iadd (pc := 78) C dX5_film_78 ?_
  refine z_aload_n (pc := 79) (i := 0) C 0 dX5_film_79 rfl rfl ?_
  refine z_get (pc := 80) (ci := 5) C (.ref (h 1)) bi_X5 rfl 0 0 (by decide) rfl bf_X5_7 rfl rfl dX5_film_80 ?_
  refine z_iconst (pc := 83) C (3 : Int32) dX5_film_83 (by decide) ?_
  refine z_iald (pc := 84) C 1 0 (3) rfl rfl (show ¬ ((3 : Int32) < 0 ∨ 39 ≤ (3 : Int32).toNatClampNeg) by decide) (by decide) dX5_film_84 ?_
  refine z_i2l (pc := 85) C dX5_film_85 ?_
  obtain ⟨hv1, hf⟩ := bb_g_some hf
  refine z_last (pc := 86) (ws' := wX5 X.cs h (bb_sB s0 16 (vp_updL (s0.2.2 16) (((((24 : Int32)) * x2) + x4) + x6).toNatClampNeg ((s0.2.1 0 3).toInt64)))) C 9 1 ((((((24 : Int32)) * x2) + x4) + x6).toNatClampNeg) rfl rfl hv1 rfl rfl dX5_film_86 ?_
  exact B_X5_film_87 C hR hr h R hk54 hf
noncomputable def G_X5_film_54 (k54 : bb_O → Int32 → Int32 → Int32 → Int32 → Option (Int32 × bb_O)) (s0 : bb_O) (x1 : Int32) (x2 : Int32) (x4 : Int32) (x6 : Int32) : Option (Int32 × bb_O) := if x1 ≤ x6 then ((F_X5_backs_0 s0).bind (fun q2 => some (x1, q2))) else ((F_X5_goesBy_0 s0).bind (fun q3 => F_X5_film_65 k54 q3.2 x1 x2 x4 x6))
noncomputable def F_X5_film_54  : Nat → bb_O → Int32 → Int32 → Int32 → Int32 → Option (Int32 × bb_O)
  | 0, _, _, _, _, _ => none
  | n + 1, s0, x1, x2, x4, x6 => G_X5_film_54  (F_X5_film_54  n) s0 x1 x2 x4 x6
set_option maxHeartbeats 4000000 in
set_option maxRecDepth 100000 in
theorem A_X5_film_54 {X : bb_X} (C : bb_C X RX5 cX5_film 7) (hR : bb_r X 6) (hr : X.meth.sig.returnType = (some .int)) (h : Nat → Nat) {z : (Int32 × bb_O)} (R : bb_R X (some (.int z.1)) (wX5 X.cs h z.2)) {k54 : bb_O → Int32 → Int32 → Int32 → Int32 → Option (Int32 × bb_O)} (hk54 : ∀ (s0 : bb_O) (x1 : Int32) (x2 : Int32) (x4 : Int32) (x6 : Int32), k54 s0 x1 x2 x4 x6 = some z → bb_Z X 7 (wX5 X.cs h s0) 54 [(0, .ref (h 0)), (1, .int x1), (2, .int x2), (4, .int x4), (6, .int x6)] []) {s0 : bb_O} {x1 : Int32} {x2 : Int32} {x4 : Int32} {x6 : Int32} (hf : G_X5_film_54 k54 s0 x1 x2 x4 x6 = some z) : bb_Z X 7 (wX5 X.cs h s0) 54 [(0, .ref (h 0)), (1, .int x1), (2, .int x2), (4, .int x4), (6, .int x6)] [] := by
  refine z_iload (pc := 54) C 4 dX5_film_54 rfl ?_
  refine z_iload_n (pc := 56) (i := 1) C 1 dX5_film_56 rfl rfl ?_
  refine z_icmp_ge (pc := 57) C 93 dX5_film_57 (by decide) (fun hc1 => ?_) (fun hc1 => ?_)
  · have hf := bb_t hf hc1
    refine z_aload_n (pc := 93) (i := 0) C 0 dX5_film_93 rfl rfl ?_
    obtain ⟨q2, hq2, hf⟩ := bb_b_some hf
    refine z_callVv (pc := 94) (ci := 5) (q0 := 0) (As := []) (rest := []) (ws' := wX5 X.cs h q2) C (hR.le (by decide)) (c_X5_backs h hq2) (bb_cut_self _ _) bv_X5_backs bm_X5_176 rfl rfl rfl rfl (Nat.le_of_ble_eq_true rfl) dX5_film_94 ?_
    refine z_iload_n (pc := 97) (i := 1) C 1 dX5_film_97 rfl rfl ?_
    obtain rfl := Option.some.inj hf
    exact z_iret (pc := 98) C hr R dX5_film_98
  · have hf := bb_e hf hc1
    refine z_aload_n (pc := 60) (i := 0) C 0 dX5_film_60 rfl rfl ?_
    obtain ⟨q3, hq3, hf⟩ := bb_b_some hf
    refine z_callVi (pc := 61) (ci := 5) (q0 := 0) (As := []) (rest := []) (ws' := wX5 X.cs h q3.2) C (hR.le (by decide)) (c_X5_goesBy h hq3) (bb_cut_self _ _) bv_X5_goesBy bm_X5_155 rfl rfl rfl rfl (Nat.le_of_ble_eq_true rfl) dX5_film_61 ?_
    refine z_pop (pc := 64) C dX5_film_64 rfl ?_
    exact B_X5_film_65 C hR hr h R hk54 hf
theorem B_X5_film_54 {X : bb_X} (C : bb_C X RX5 cX5_film 7) (hR : bb_r X 6) (hr : X.meth.sig.returnType = (some .int)) (h : Nat → Nat) {z : (Int32 × bb_O)} (R : bb_R X (some (.int z.1)) (wX5 X.cs h z.2)) : ∀ (n : Nat) (s0 : bb_O) (x1 : Int32) (x2 : Int32) (x4 : Int32) (x6 : Int32), F_X5_film_54  n s0 x1 x2 x4 x6 = some z → bb_Z X 7 (wX5 X.cs h s0) 54 [(0, .ref (h 0)), (1, .int x1), (2, .int x2), (4, .int x4), (6, .int x6)] [] := by
  intro n
  induction n with
  | zero =>
    intro s0 x1 x2 x4 x6 hf
    cases hf
  | succ n ih =>
    intro s0 x1 x2 x4 x6 hf
    exact A_X5_film_54 C hR hr h R  ih hf
noncomputable def F_X5_film_0 (s0 : bb_O) (x1 : Int32) (x2 : Int32) (x3 : Int32) (x4 : Int32) : Option (Int32 × bb_O) := (F_X5_in_0 (x1.toInt64) ((1 : Int64)) ((24 : Int64))).bind (fun q1 => if q1 = 0 then (F_X5_film_26 s0) else ((F_X5_isSheet_0 x2).bind (fun q3 => if q3 = 0 then (F_X5_film_26 s0) else ((F_X5_isLane_0 x3).bind (fun q5 => if q5 = 0 then (F_X5_film_26 s0) else ((F_X5_why_0 s0 x2 x3 x4 x1).bind (fun q7 => if 0 ≤ q7 then ((F_X5_asides_0 s0).bind (fun q9 => F_X5_film_54 bb_N q9 x1 x2 x4 ((0 : Int32)))) else (some (q7, s0)))))))))
set_option maxHeartbeats 4000000 in
set_option maxRecDepth 100000 in
theorem B_X5_film_0 {X : bb_X} (C : bb_C X RX5 cX5_film 7) (hR : bb_r X 6) (hr : X.meth.sig.returnType = (some .int)) (h : Nat → Nat) {z : (Int32 × bb_O)} (R : bb_R X (some (.int z.1)) (wX5 X.cs h z.2)) {s0 : bb_O} {x1 : Int32} {x2 : Int32} {x3 : Int32} {x4 : Int32} (hf : F_X5_film_0 s0 x1 x2 x3 x4 = some z) : bb_Z X 7 (wX5 X.cs h s0) 0 [(0, .ref (h 0)), (1, .int x1), (2, .int x2), (3, .int x3), (4, .int x4)] [] := by
  refine z_iload_n (pc := 0) (i := 1) C 1 dX5_film_0 rfl rfl ?_
  refine z_i2l (pc := 1) C dX5_film_1 ?_
  refine z_lconst (pc := 2) C (1 : Int64) dX5_film_2 (by decide) ?_
  refine z_ldc2_w (pc := 3) C bk_X5_203 dX5_film_3 ?_
  obtain ⟨q1, hq1, hf⟩ := bb_b_some hf
  refine z_callSi (pc := 6) (As := [.long (x1.toInt64), .long ((1 : Int64)), .long ((24 : Int64))]) (rest := []) C (hR.le (by decide)) (c_X5_in hq1) (bb_cut_none _) bv_X5_in bm_X5_49 rfl rfl (Nat.le_of_ble_eq_true rfl) dX5_film_6 ?_
  refine z_if_eq (pc := 9) C 26 dX5_film_9 (by decide) (fun hc2 => ?_) (fun hc2 => ?_)
  · have hf := bb_t hf hc2
    refine z_lv [] rfl ?_
    exact B_X5_film_26 C hR hr h R  hf
  · have hf := bb_e hf hc2
    refine z_iload_n (pc := 12) (i := 2) C 2 dX5_film_12 rfl rfl ?_
    obtain ⟨q3, hq3, hf⟩ := bb_b_some hf
    refine z_callSi (pc := 13) (As := [.int x2]) (rest := []) C (hR.le (by decide)) (c_X5_isSheet hq3) (bb_cut_none _) bv_X5_isSheet bm_X5_193 rfl rfl (Nat.le_of_ble_eq_true rfl) dX5_film_13 ?_
    refine z_if_eq (pc := 16) C 26 dX5_film_16 (by decide) (fun hc4 => ?_) (fun hc4 => ?_)
    · have hf := bb_t hf hc4
      refine z_lv [] rfl ?_
      exact B_X5_film_26 C hR hr h R  hf
    · have hf := bb_e hf hc4
      refine z_iload_n (pc := 19) (i := 3) C 3 dX5_film_19 rfl rfl ?_
      obtain ⟨q5, hq5, hf⟩ := bb_b_some hf
      refine z_callSi (pc := 20) (As := [.int x3]) (rest := []) C (hR.le (by decide)) (c_X5_isLane hq5) (bb_cut_none _) bv_X5_isLane bm_X5_196 rfl rfl (Nat.le_of_ble_eq_true rfl) dX5_film_20 ?_
      refine z_if_ne (pc := 23) C 28 dX5_film_23 (by decide) (fun hc6 => ?_) (fun hc6 => ?_)
      · have hf := bb_e hf hc6
        refine z_aload_n (pc := 28) (i := 0) C 0 dX5_film_28 rfl rfl ?_
        refine z_iload_n (pc := 29) (i := 2) C 2 dX5_film_29 rfl rfl ?_
        refine z_iload_n (pc := 30) (i := 3) C 3 dX5_film_30 rfl rfl ?_
        refine z_iload (pc := 31) C 4 dX5_film_31 rfl ?_
        refine z_iload_n (pc := 33) (i := 1) C 1 dX5_film_33 rfl rfl ?_
        obtain ⟨q7, hq7, hf⟩ := bb_b_some hf
        refine z_callVi (pc := 34) (ci := 5) (q0 := 0) (As := [.int x2, .int x3, .int x4, .int x1]) (rest := []) C (hR.le (by decide)) (c_X5_why h hq7) (bb_cut_self _ _) bv_X5_why bm_X5_199 rfl rfl rfl rfl (Nat.le_of_ble_eq_true rfl) dX5_film_34 ?_
        refine z_istore (pc := 37) (lv' := [(5, .int q7), (0, .ref (h 0)), (1, .int x1), (2, .int x2), (3, .int x3), (4, .int x4)]) C dX5_film_37 (by decide) rfl ?_
        refine z_iload (pc := 39) C 0 dX5_film_39 rfl ?_
        refine z_if_ge (pc := 41) C 47 dX5_film_41 (by decide) (fun hc8 => ?_) (fun hc8 => ?_)
        · have hf := bb_t hf hc8
          refine z_aload_n (pc := 47) (i := 0) C 1 dX5_film_47 rfl rfl ?_
          obtain ⟨q9, hq9, hf⟩ := bb_b_some hf
          refine z_callVv (pc := 48) (ci := 5) (q0 := 0) (As := []) (rest := []) (ws' := wX5 X.cs h q9) C (hR.le (by decide)) (c_X5_asides h hq9) (bb_cut_self _ _) bv_X5_asides bm_X5_173 rfl rfl rfl rfl (Nat.le_of_ble_eq_true rfl) dX5_film_48 ?_
          refine z_iconst (pc := 51) C (0 : Int32) dX5_film_51 (by decide) ?_
          refine z_istore (pc := 52) (lv' := [(6, .int ((0 : Int32))), (5, .int q7), (0, .ref (h 0)), (1, .int x1), (2, .int x2), (3, .int x3), (4, .int x4)]) C dX5_film_52 (by decide) rfl ?_
          refine z_lv [2, 3, 4, 6, 0] rfl ?_
          exact B_X5_film_54 C hR hr h R  bb_N _ _ _ _ _ hf
        · have hf := bb_e hf hc8
          refine z_iload (pc := 44) C 0 dX5_film_44 rfl ?_
          obtain rfl := Option.some.inj hf
          exact z_iret (pc := 46) C hr R dX5_film_46
      · have hf := bb_t hf hc6
        refine z_lv [] rfl ?_
        exact B_X5_film_26 C hR hr h R  hf
theorem c_X5_film {l : Launch} {D : va_G} {cs : Nat → ClassId} (h : Nat → Nat) {s0 : bb_O} {x1 : Int32} {x2 : Int32} {x3 : Int32} {x4 : Int32} {z : (Int32 × bb_O)} (hf : F_X5_film_0 s0 x1 x2 x3 x4 = some z) : bb_M l yX5_film cX5_film 7 (some .int) 6 D cs [.ref (h 0), .int x1, .int x2, .int x3, .int x4] (some (.int z.1)) (wX5 cs h s0) (wX5 cs h z.2) := bb_mg (by decide) rfl (Nat.le_of_ble_eq_true rfl) rfl (fun X hl hD hcs C hR hr R => by
  subst hl
  subst hD
  subst hcs
  exact B_X5_film_0 C hR hr h R hf)
/-! X5_sheet: writes, level 3 -/
noncomputable def F_X5_sheet_20 (s0 : bb_O) : Option (Int32 × bb_O) := some ((-1 : Int32), s0)
set_option maxHeartbeats 4000000 in
set_option maxRecDepth 100000 in
theorem B_X5_sheet_20 {X : bb_X} (C : bb_C X RX5 cX5_sheet 5) (hR : bb_r X 3) (hr : X.meth.sig.returnType = (some .int)) (h : Nat → Nat) {z : (Int32 × bb_O)} (R : bb_R X (some (.int z.1)) (wX5 X.cs h z.2)) {s0 : bb_O} (hf : F_X5_sheet_20 s0 = some z) : bb_Z X 5 (wX5 X.cs h s0) 20 [] [] := by
  refine z_iconst (pc := 20) C (-1 : Int32) dX5_sheet_20 (by decide) ?_
  obtain rfl := Option.some.inj hf
  exact z_iret (pc := 21) C hr R dX5_sheet_21
noncomputable def F_X5_sheet_66 (k46 : bb_O → Int32 → Int32 → Int32 → Option (Int32 × bb_O)) (s0 : bb_O) (x1 : Int32) (x3 : Int32) (x4 : Int32) : Option (Int32 × bb_O) := k46 s0 x1 x3 (x4 + 1)
set_option maxHeartbeats 4000000 in
set_option maxRecDepth 100000 in
theorem B_X5_sheet_66 {X : bb_X} (C : bb_C X RX5 cX5_sheet 5) (hR : bb_r X 3) (hr : X.meth.sig.returnType = (some .int)) (h : Nat → Nat) {z : (Int32 × bb_O)} (R : bb_R X (some (.int z.1)) (wX5 X.cs h z.2)) {k46 : bb_O → Int32 → Int32 → Int32 → Option (Int32 × bb_O)} (hk46 : ∀ (s0 : bb_O) (x1 : Int32) (x3 : Int32) (x4 : Int32), k46 s0 x1 x3 x4 = some z → bb_Z X 5 (wX5 X.cs h s0) 46 [(0, .ref (h 0)), (1, .int x1), (3, .int x3), (4, .int x4)] []) {s0 : bb_O} {x1 : Int32} {x3 : Int32} {x4 : Int32} (hf : F_X5_sheet_66 k46 s0 x1 x3 x4 = some z) : bb_Z X 5 (wX5 X.cs h s0) 66 [(0, .ref (h 0)), (1, .int x1), (3, .int x3), (4, .int x4)] [] := by
  refine z_iinc (pc := 66) (lv' := [(4, .int (x4 + 1)), (0, .ref (h 0)), (1, .int x1), (3, .int x3)]) C (x4 + 1) 3 dX5_sheet_66 rfl rfl (by decide) rfl ?_
  refine z_goto (pc := 69) C 46 dX5_sheet_69 (by decide) ?_
  refine z_lv [1, 2, 3, 0] rfl ?_
  exact hk46 _ _ _ _ hf
noncomputable def G_X5_sheet_46 (k46 : bb_O → Int32 → Int32 → Int32 → Option (Int32 × bb_O)) (s0 : bb_O) (x1 : Int32) (x3 : Int32) (x4 : Int32) : Option (Int32 × bb_O) := if ((24 : Int32)) ≤ x4 then (some (x3, s0)) else (bb_g (vp_in ((((24 : Int32)) * x1) + x4) 96) (F_X5_sheet_66 k46 (bb_sB s0 16 (vp_updL (s0.2.2 16) ((((24 : Int32)) * x1) + x4).toNatClampNeg ((0 : Int64)))) x1 x3 x4))
noncomputable def F_X5_sheet_46  : Nat → bb_O → Int32 → Int32 → Int32 → Option (Int32 × bb_O)
  | 0, _, _, _, _ => none
  | n + 1, s0, x1, x3, x4 => G_X5_sheet_46  (F_X5_sheet_46  n) s0 x1 x3 x4
set_option maxHeartbeats 4000000 in
set_option maxRecDepth 100000 in
theorem A_X5_sheet_46 {X : bb_X} (C : bb_C X RX5 cX5_sheet 5) (hR : bb_r X 3) (hr : X.meth.sig.returnType = (some .int)) (h : Nat → Nat) {z : (Int32 × bb_O)} (R : bb_R X (some (.int z.1)) (wX5 X.cs h z.2)) {k46 : bb_O → Int32 → Int32 → Int32 → Option (Int32 × bb_O)} (hk46 : ∀ (s0 : bb_O) (x1 : Int32) (x3 : Int32) (x4 : Int32), k46 s0 x1 x3 x4 = some z → bb_Z X 5 (wX5 X.cs h s0) 46 [(0, .ref (h 0)), (1, .int x1), (3, .int x3), (4, .int x4)] []) {s0 : bb_O} {x1 : Int32} {x3 : Int32} {x4 : Int32} (hf : G_X5_sheet_46 k46 s0 x1 x3 x4 = some z) : bb_Z X 5 (wX5 X.cs h s0) 46 [(0, .ref (h 0)), (1, .int x1), (3, .int x3), (4, .int x4)] [] := by
  refine z_iload (pc := 46) C 3 dX5_sheet_46 rfl ?_
  refine z_bipush (pc := 48) C (24 : Int32) dX5_sheet_48 (by decide) ?_
  refine z_icmp_ge (pc := 50) C 72 dX5_sheet_50 (by decide) (fun hc1 => ?_) (fun hc1 => ?_)
  · have hf := bb_t hf hc1
    refine z_iload_n (pc := 72) (i := 3) C 2 dX5_sheet_72 rfl rfl ?_
    obtain rfl := Option.some.inj hf
    exact z_iret (pc := 73) C hr R dX5_sheet_73
  · have hf := bb_e hf hc1
    refine z_aload_n (pc := 53) (i := 0) C 0 dX5_sheet_53 rfl rfl ?_
    refine z_get (pc := 54) (ci := 5) C (.ref (h 17)) bi_X5 rfl 0 16 (by decide) rfl bf_X5_34 rfl rfl dX5_sheet_54 ?_
    refine z_bipush (pc := 57) C (24 : Int32) dX5_sheet_57 (by decide) ?_
    refine z_iload_n (pc := 59) (i := 1) C 1 dX5_sheet_59 rfl rfl ?_
    refine z_imul (pc := 60) C dX5_sheet_60 ?_
    refine z_iload (pc := 61) C 3 dX5_sheet_61 rfl ?_
    refine z_iadd (pc := 63) C dX5_sheet_63 ?_
    refine z_lconst (pc := 64) C (0 : Int64) dX5_sheet_64 (by decide) ?_
    obtain ⟨hv2, hf⟩ := bb_g_some hf
    refine z_last (pc := 65) (ws' := wX5 X.cs h (bb_sB s0 16 (vp_updL (s0.2.2 16) ((((24 : Int32)) * x1) + x4).toNatClampNeg ((0 : Int64))))) C 9 1 (((((24 : Int32)) * x1) + x4).toNatClampNeg) rfl rfl hv2 rfl rfl dX5_sheet_65 ?_
    exact B_X5_sheet_66 C hR hr h R hk46 hf
theorem B_X5_sheet_46 {X : bb_X} (C : bb_C X RX5 cX5_sheet 5) (hR : bb_r X 3) (hr : X.meth.sig.returnType = (some .int)) (h : Nat → Nat) {z : (Int32 × bb_O)} (R : bb_R X (some (.int z.1)) (wX5 X.cs h z.2)) : ∀ (n : Nat) (s0 : bb_O) (x1 : Int32) (x3 : Int32) (x4 : Int32), F_X5_sheet_46  n s0 x1 x3 x4 = some z → bb_Z X 5 (wX5 X.cs h s0) 46 [(0, .ref (h 0)), (1, .int x1), (3, .int x3), (4, .int x4)] [] := by
  intro n
  induction n with
  | zero =>
    intro s0 x1 x3 x4 hf
    cases hf
  | succ n ih =>
    intro s0 x1 x3 x4 hf
    exact A_X5_sheet_46 C hR hr h R  ih hf
noncomputable def F_X5_sheet_43 (s0 : bb_O) (x1 : Int32) (x3 : Int32) : Option (Int32 × bb_O) := F_X5_sheet_46 bb_N s0 x1 x3 ((0 : Int32))
set_option maxHeartbeats 4000000 in
set_option maxRecDepth 100000 in
theorem B_X5_sheet_43 {X : bb_X} (C : bb_C X RX5 cX5_sheet 5) (hR : bb_r X 3) (hr : X.meth.sig.returnType = (some .int)) (h : Nat → Nat) {z : (Int32 × bb_O)} (R : bb_R X (some (.int z.1)) (wX5 X.cs h z.2)) {s0 : bb_O} {x1 : Int32} {x3 : Int32} (hf : F_X5_sheet_43 s0 x1 x3 = some z) : bb_Z X 5 (wX5 X.cs h s0) 43 [(0, .ref (h 0)), (1, .int x1), (3, .int x3)] [] := by
  refine z_iconst (pc := 43) C (0 : Int32) dX5_sheet_43 (by decide) ?_
  refine z_istore (pc := 44) (lv' := [(4, .int ((0 : Int32))), (0, .ref (h 0)), (1, .int x1), (3, .int x3)]) C dX5_sheet_44 (by decide) rfl ?_
  refine z_lv [1, 2, 3, 0] rfl ?_
  exact B_X5_sheet_46 C hR hr h R  bb_N _ _ _ _ hf
noncomputable def F_X5_sheet_36 (s0 : bb_O) (x1 : Int32) (x3 : Int32) : Option (Int32 × bb_O) := bb_g (vp_in x1 4) (F_X5_sheet_43 (bb_sA s0 15 (upd (s0.2.1 15) x1.toNatClampNeg x3)) x1 x3)
set_option maxHeartbeats 4000000 in
set_option maxRecDepth 100000 in
theorem B_X5_sheet_36 {X : bb_X} (C : bb_C X RX5 cX5_sheet 5) (hR : bb_r X 3) (hr : X.meth.sig.returnType = (some .int)) (h : Nat → Nat) {z : (Int32 × bb_O)} (R : bb_R X (some (.int z.1)) (wX5 X.cs h z.2)) {s0 : bb_O} {x1 : Int32} {x3 : Int32} (hf : F_X5_sheet_36 s0 x1 x3 = some z) : bb_Z X 5 (wX5 X.cs h s0) 36 [(0, .ref (h 0)), (1, .int x1), (3, .int x3)] [] := by
  refine z_aload_n (pc := 36) (i := 0) C 0 dX5_sheet_36 rfl rfl ?_
  refine z_get (pc := 37) (ci := 5) C (.ref (h 16)) bi_X5 rfl 0 15 (by decide) rfl bf_X5_31 rfl rfl dX5_sheet_37 ?_
  refine z_iload_n (pc := 40) (i := 1) C 1 dX5_sheet_40 rfl rfl ?_
  refine z_iload_n (pc := 41) (i := 3) C 2 dX5_sheet_41 rfl rfl ?_
  obtain ⟨hv1, hf⟩ := bb_g_some hf
  refine z_iast (pc := 42) (ws' := wX5 X.cs h (bb_sA s0 15 (upd (s0.2.1 15) x1.toNatClampNeg x3))) C 8 0 (x1.toNatClampNeg) rfl rfl hv1 rfl rfl dX5_sheet_42 ?_
  exact B_X5_sheet_43 C hR hr h R  hf
noncomputable def F_X5_sheet_0 (s0 : bb_O) (x1 : Int32) (x2 : Int32) (x3 : Int32) : Option (Int32 × bb_O) := (F_X5_isSheet_0 x1).bind (fun q1 => if q1 = 0 then (F_X5_sheet_20 s0) else ((F_X5_isLane_0 x2).bind (fun q3 => if q3 = 0 then (F_X5_sheet_20 s0) else (if x3 ≤ ((24 : Int32)) then (if 0 ≤ x3 then (bb_g (vp_in x1 4) (F_X5_sheet_36 (bb_sA s0 14 (upd (s0.2.1 14) x1.toNatClampNeg x2)) x1 x3)) else (some ((-14 : Int32), s0))) else (F_X5_sheet_20 s0)))))
set_option maxHeartbeats 4000000 in
set_option maxRecDepth 100000 in
theorem B_X5_sheet_0 {X : bb_X} (C : bb_C X RX5 cX5_sheet 5) (hR : bb_r X 3) (hr : X.meth.sig.returnType = (some .int)) (h : Nat → Nat) {z : (Int32 × bb_O)} (R : bb_R X (some (.int z.1)) (wX5 X.cs h z.2)) {s0 : bb_O} {x1 : Int32} {x2 : Int32} {x3 : Int32} (hf : F_X5_sheet_0 s0 x1 x2 x3 = some z) : bb_Z X 5 (wX5 X.cs h s0) 0 [(0, .ref (h 0)), (1, .int x1), (2, .int x2), (3, .int x3)] [] := by
  refine z_iload_n (pc := 0) (i := 1) C 1 dX5_sheet_0 rfl rfl ?_
  obtain ⟨q1, hq1, hf⟩ := bb_b_some hf
  refine z_callSi (pc := 1) (As := [.int x1]) (rest := []) C (hR.le (by decide)) (c_X5_isSheet hq1) (bb_cut_none _) bv_X5_isSheet bm_X5_193 rfl rfl (Nat.le_of_ble_eq_true rfl) dX5_sheet_1 ?_
  refine z_if_eq (pc := 4) C 20 dX5_sheet_4 (by decide) (fun hc2 => ?_) (fun hc2 => ?_)
  · have hf := bb_t hf hc2
    refine z_lv [] rfl ?_
    exact B_X5_sheet_20 C hR hr h R  hf
  · have hf := bb_e hf hc2
    refine z_iload_n (pc := 7) (i := 2) C 2 dX5_sheet_7 rfl rfl ?_
    obtain ⟨q3, hq3, hf⟩ := bb_b_some hf
    refine z_callSi (pc := 8) (As := [.int x2]) (rest := []) C (hR.le (by decide)) (c_X5_isLane hq3) (bb_cut_none _) bv_X5_isLane bm_X5_196 rfl rfl (Nat.le_of_ble_eq_true rfl) dX5_sheet_8 ?_
    refine z_if_eq (pc := 11) C 20 dX5_sheet_11 (by decide) (fun hc4 => ?_) (fun hc4 => ?_)
    · have hf := bb_t hf hc4
      refine z_lv [] rfl ?_
      exact B_X5_sheet_20 C hR hr h R  hf
    · have hf := bb_e hf hc4
      refine z_iload_n (pc := 14) (i := 3) C 3 dX5_sheet_14 rfl rfl ?_
      refine z_bipush (pc := 15) C (24 : Int32) dX5_sheet_15 (by decide) ?_
      refine z_icmp_le (pc := 17) C 22 dX5_sheet_17 (by decide) (fun hc5 => ?_) (fun hc5 => ?_)
      · have hf := bb_t hf hc5
        refine z_iload_n (pc := 22) (i := 3) C 3 dX5_sheet_22 rfl rfl ?_
        refine z_if_ge (pc := 23) C 29 dX5_sheet_23 (by decide) (fun hc6 => ?_) (fun hc6 => ?_)
        · have hf := bb_t hf hc6
          refine z_aload_n (pc := 29) (i := 0) C 0 dX5_sheet_29 rfl rfl ?_
          refine z_get (pc := 30) (ci := 5) C (.ref (h 15)) bi_X5 rfl 0 14 (by decide) rfl bf_X5_28 rfl rfl dX5_sheet_30 ?_
          refine z_iload_n (pc := 33) (i := 1) C 1 dX5_sheet_33 rfl rfl ?_
          refine z_iload_n (pc := 34) (i := 2) C 2 dX5_sheet_34 rfl rfl ?_
          obtain ⟨hv7, hf⟩ := bb_g_some hf
          refine z_iast (pc := 35) (ws' := wX5 X.cs h (bb_sA s0 14 (upd (s0.2.1 14) x1.toNatClampNeg x2))) C 7 0 (x1.toNatClampNeg) rfl rfl hv7 rfl rfl dX5_sheet_35 ?_
          refine z_lv [0, 1, 3] rfl ?_
          exact B_X5_sheet_36 C hR hr h R  hf
        · have hf := bb_e hf hc6
          refine z_bipush (pc := 26) C (-14 : Int32) dX5_sheet_26 (by decide) ?_
          obtain rfl := Option.some.inj hf
          exact z_iret (pc := 28) C hr R dX5_sheet_28
      · have hf := bb_e hf hc5
        refine z_lv [] rfl ?_
        exact B_X5_sheet_20 C hR hr h R  hf
theorem c_X5_sheet {l : Launch} {D : va_G} {cs : Nat → ClassId} (h : Nat → Nat) {s0 : bb_O} {x1 : Int32} {x2 : Int32} {x3 : Int32} {z : (Int32 × bb_O)} (hf : F_X5_sheet_0 s0 x1 x2 x3 = some z) : bb_M l yX5_sheet cX5_sheet 5 (some .int) 3 D cs [.ref (h 0), .int x1, .int x2, .int x3] (some (.int z.1)) (wX5 cs h s0) (wX5 cs h z.2) := bb_mg (by decide) rfl (Nat.le_of_ble_eq_true rfl) rfl (fun X hl hD hcs C hR hr R => by
  subst hl
  subst hD
  subst hcs
  exact B_X5_sheet_0 C hR hr h R hf)
/-! X5_drop: writes, level 3 -/
noncomputable def F_X5_drop_28 (s0 : bb_O) (x1 : Int32) : Option (Int32 × bb_O) := bb_g (vp_in x1 4) (some (s0.2.1 15 x1.toNatClampNeg, s0))
set_option maxHeartbeats 4000000 in
set_option maxRecDepth 100000 in
theorem B_X5_drop_28 {X : bb_X} (C : bb_C X RX5 cX5_drop 2) (hR : bb_r X 3) (hr : X.meth.sig.returnType = (some .int)) (h : Nat → Nat) {z : (Int32 × bb_O)} (R : bb_R X (some (.int z.1)) (wX5 X.cs h z.2)) {s0 : bb_O} {x1 : Int32} (hf : F_X5_drop_28 s0 x1 = some z) : bb_Z X 2 (wX5 X.cs h s0) 28 [(0, .ref (h 0)), (1, .int x1)] [] := by
  refine z_aload_n (pc := 28) (i := 0) C 0 dX5_drop_28 rfl rfl ?_
  refine z_get (pc := 29) (ci := 5) C (.ref (h 16)) bi_X5 rfl 0 15 (by decide) rfl bf_X5_31 rfl rfl dX5_drop_29 ?_
  refine z_iload_n (pc := 32) (i := 1) C 1 dX5_drop_32 rfl rfl ?_
  obtain ⟨hv1, hf⟩ := bb_g_some hf
  refine z_iald (pc := 33) C 8 0 (x1.toNatClampNeg) rfl rfl hv1 rfl dX5_drop_33 ?_
  obtain rfl := Option.some.inj hf
  exact z_iret (pc := 34) C hr R dX5_drop_34
noncomputable def F_X5_drop_0 (s0 : bb_O) (x1 : Int32) : Option (Int32 × bb_O) := (F_X5_isSheet_0 x1).bind (fun q1 => if q1 = 0 then (some ((-1 : Int32), s0)) else (bb_g (vp_in x1 4) (if 0 ≤ (s0.2.1 14 x1.toNatClampNeg) then (bb_g (vp_in x1 4) (F_X5_drop_28 (bb_sA s0 14 (upd (s0.2.1 14) x1.toNatClampNeg ((-1 : Int32)))) x1)) else (some ((-11 : Int32), s0)))))
set_option maxHeartbeats 4000000 in
set_option maxRecDepth 100000 in
theorem B_X5_drop_0 {X : bb_X} (C : bb_C X RX5 cX5_drop 2) (hR : bb_r X 3) (hr : X.meth.sig.returnType = (some .int)) (h : Nat → Nat) {z : (Int32 × bb_O)} (R : bb_R X (some (.int z.1)) (wX5 X.cs h z.2)) {s0 : bb_O} {x1 : Int32} (hf : F_X5_drop_0 s0 x1 = some z) : bb_Z X 2 (wX5 X.cs h s0) 0 [(0, .ref (h 0)), (1, .int x1)] [] := by
  refine z_iload_n (pc := 0) (i := 1) C 1 dX5_drop_0 rfl rfl ?_
  obtain ⟨q1, hq1, hf⟩ := bb_b_some hf
  refine z_callSi (pc := 1) (As := [.int x1]) (rest := []) C (hR.le (by decide)) (c_X5_isSheet hq1) (bb_cut_none _) bv_X5_isSheet bm_X5_193 rfl rfl (Nat.le_of_ble_eq_true rfl) dX5_drop_1 ?_
  refine z_if_ne (pc := 4) C 9 dX5_drop_4 (by decide) (fun hc2 => ?_) (fun hc2 => ?_)
  · have hf := bb_e hf hc2
    refine z_aload_n (pc := 9) (i := 0) C 0 dX5_drop_9 rfl rfl ?_
    refine z_get (pc := 10) (ci := 5) C (.ref (h 15)) bi_X5 rfl 0 14 (by decide) rfl bf_X5_28 rfl rfl dX5_drop_10 ?_
    refine z_iload_n (pc := 13) (i := 1) C 1 dX5_drop_13 rfl rfl ?_
    obtain ⟨hv3, hf⟩ := bb_g_some hf
    refine z_iald (pc := 14) C 7 0 (x1.toNatClampNeg) rfl rfl hv3 rfl dX5_drop_14 ?_
    refine z_if_ge (pc := 15) C 21 dX5_drop_15 (by decide) (fun hc4 => ?_) (fun hc4 => ?_)
    · have hf := bb_t hf hc4
      refine z_aload_n (pc := 21) (i := 0) C 0 dX5_drop_21 rfl rfl ?_
      refine z_get (pc := 22) (ci := 5) C (.ref (h 15)) bi_X5 rfl 0 14 (by decide) rfl bf_X5_28 rfl rfl dX5_drop_22 ?_
      refine z_iload_n (pc := 25) (i := 1) C 1 dX5_drop_25 rfl rfl ?_
      refine z_iconst (pc := 26) C (-1 : Int32) dX5_drop_26 (by decide) ?_
      obtain ⟨hv5, hf⟩ := bb_g_some hf
      refine z_iast (pc := 27) (ws' := wX5 X.cs h (bb_sA s0 14 (upd (s0.2.1 14) x1.toNatClampNeg ((-1 : Int32))))) C 7 0 (x1.toNatClampNeg) rfl rfl hv5 rfl rfl dX5_drop_27 ?_
      exact B_X5_drop_28 C hR hr h R  hf
    · have hf := bb_e hf hc4
      refine z_bipush (pc := 18) C (-11 : Int32) dX5_drop_18 (by decide) ?_
      obtain rfl := Option.some.inj hf
      exact z_iret (pc := 20) C hr R dX5_drop_20
  · have hf := bb_t hf hc2
    refine z_iconst (pc := 7) C (-1 : Int32) dX5_drop_7 (by decide) ?_
    obtain rfl := Option.some.inj hf
    exact z_iret (pc := 8) C hr R dX5_drop_8
theorem c_X5_drop {l : Launch} {D : va_G} {cs : Nat → ClassId} (h : Nat → Nat) {s0 : bb_O} {x1 : Int32} {z : (Int32 × bb_O)} (hf : F_X5_drop_0 s0 x1 = some z) : bb_M l yX5_drop cX5_drop 2 (some .int) 3 D cs [.ref (h 0), .int x1] (some (.int z.1)) (wX5 cs h s0) (wX5 cs h z.2) := bb_mg (by decide) rfl (Nat.le_of_ble_eq_true rfl) rfl (fun X hl hD hcs C hR hr R => by
  subst hl
  subst hD
  subst hcs
  exact B_X5_drop_0 C hR hr h R hf)
/-! X5_item: writes, level 3 -/
noncomputable def F_X5_item_14 (s0 : bb_O) : Option (Int32 × bb_O) := some ((-1 : Int32), s0)
set_option maxHeartbeats 4000000 in
set_option maxRecDepth 100000 in
theorem B_X5_item_14 {X : bb_X} (C : bb_C X RX5 cX5_item 7) (hR : bb_r X 3) (hr : X.meth.sig.returnType = (some .int)) (h : Nat → Nat) {z : (Int32 × bb_O)} (R : bb_R X (some (.int z.1)) (wX5 X.cs h z.2)) {s0 : bb_O} (hf : F_X5_item_14 s0 = some z) : bb_Z X 7 (wX5 X.cs h s0) 14 [] [] := by
  refine z_iconst (pc := 14) C (-1 : Int32) dX5_item_14 (by decide) ?_
  obtain rfl := Option.some.inj hf
  exact z_iret (pc := 15) C hr R dX5_item_15
noncomputable def F_X5_item_84 (s0 : bb_O) : Option (Int32 × bb_O) := some ((1 : Int32), s0)
set_option maxHeartbeats 4000000 in
set_option maxRecDepth 100000 in
theorem B_X5_item_84 {X : bb_X} (C : bb_C X RX5 cX5_item 7) (hR : bb_r X 3) (hr : X.meth.sig.returnType = (some .int)) (h : Nat → Nat) {z : (Int32 × bb_O)} (R : bb_R X (some (.int z.1)) (wX5 X.cs h z.2)) {s0 : bb_O} (hf : F_X5_item_84 s0 = some z) : bb_Z X 7 (wX5 X.cs h s0) 84 [] [] := by
  refine z_iconst (pc := 84) C (1 : Int32) dX5_item_84 (by decide) ?_
  obtain rfl := Option.some.inj hf
  exact z_iret (pc := 85) C hr R dX5_item_85
noncomputable def F_X5_item_83 (s0 : bb_O) (y0 : Int64) (y1 : Int32) : Option (Int32 × bb_O) := bb_g (vp_in y1 96) (F_X5_item_84 (bb_sB s0 16 (vp_updL (s0.2.2 16) y1.toNatClampNeg y0)))
set_option maxHeartbeats 4000000 in
set_option maxRecDepth 100000 in
theorem B_X5_item_83 {X : bb_X} (C : bb_C X RX5 cX5_item 7) (hR : bb_r X 3) (hr : X.meth.sig.returnType = (some .int)) (h : Nat → Nat) {z : (Int32 × bb_O)} (R : bb_R X (some (.int z.1)) (wX5 X.cs h z.2)) {s0 : bb_O} {y0 : Int64} {y1 : Int32} (hf : F_X5_item_83 s0 y0 y1 = some z) : bb_Z X 7 (wX5 X.cs h s0) 83 [] [.long y0, .int y1, .ref (h 17)] := by
  obtain ⟨hv1, hf⟩ := bb_g_some hf
  refine z_last (pc := 83) (ws' := wX5 X.cs h (bb_sB s0 16 (vp_updL (s0.2.2 16) y1.toNatClampNeg y0))) C 9 1 (y1.toNatClampNeg) rfl rfl hv1 rfl rfl dX5_item_83 ?_
  exact B_X5_item_84 C hR hr h R  hf
noncomputable def F_X5_item_0 (s0 : bb_O) (x1 : Int32) (x2 : Int32) (x3 : Int32) (x4 : Int64) : Option (Int32 × bb_O) := (F_X5_isSheet_0 x1).bind (fun q1 => if q1 = 0 then (F_X5_item_14 s0) else ((F_X5_isLane_0 x2).bind (fun q3 => if q3 = 0 then (F_X5_item_14 s0) else ((F_X5_why_0 s0 x1 x2 x3 ((1 : Int32))).bind (fun q5 => if 0 ≤ q5 then (if x2 = 0 then (F_X5_item_83 s0 (((x4.toInt32).toInt8.toInt32).toInt64) ((((24 : Int32)) * x1) + x3)) else (if x2 = ((1 : Int32)) then (F_X5_item_83 s0 (((x4.toInt32).toInt16.toInt32).toInt64) ((((24 : Int32)) * x1) + x3)) else (if x2 = ((2 : Int32)) then (F_X5_item_83 s0 ((x4.toInt32).toInt64) ((((24 : Int32)) * x1) + x3)) else (F_X5_item_83 s0 x4 ((((24 : Int32)) * x1) + x3))))) else (some (q5, s0)))))))
set_option maxHeartbeats 4000000 in
set_option maxRecDepth 100000 in
theorem B_X5_item_0 {X : bb_X} (C : bb_C X RX5 cX5_item 7) (hR : bb_r X 3) (hr : X.meth.sig.returnType = (some .int)) (h : Nat → Nat) {z : (Int32 × bb_O)} (R : bb_R X (some (.int z.1)) (wX5 X.cs h z.2)) {s0 : bb_O} {x1 : Int32} {x2 : Int32} {x3 : Int32} {x4 : Int64} (hf : F_X5_item_0 s0 x1 x2 x3 x4 = some z) : bb_Z X 7 (wX5 X.cs h s0) 0 [(0, .ref (h 0)), (1, .int x1), (2, .int x2), (3, .int x3), (4, .long x4)] [] := by
  refine z_iload_n (pc := 0) (i := 1) C 1 dX5_item_0 rfl rfl ?_
  obtain ⟨q1, hq1, hf⟩ := bb_b_some hf
  refine z_callSi (pc := 1) (As := [.int x1]) (rest := []) C (hR.le (by decide)) (c_X5_isSheet hq1) (bb_cut_none _) bv_X5_isSheet bm_X5_193 rfl rfl (Nat.le_of_ble_eq_true rfl) dX5_item_1 ?_
  refine z_if_eq (pc := 4) C 14 dX5_item_4 (by decide) (fun hc2 => ?_) (fun hc2 => ?_)
  · have hf := bb_t hf hc2
    refine z_lv [] rfl ?_
    exact B_X5_item_14 C hR hr h R  hf
  · have hf := bb_e hf hc2
    refine z_iload_n (pc := 7) (i := 2) C 2 dX5_item_7 rfl rfl ?_
    obtain ⟨q3, hq3, hf⟩ := bb_b_some hf
    refine z_callSi (pc := 8) (As := [.int x2]) (rest := []) C (hR.le (by decide)) (c_X5_isLane hq3) (bb_cut_none _) bv_X5_isLane bm_X5_196 rfl rfl (Nat.le_of_ble_eq_true rfl) dX5_item_8 ?_
    refine z_if_ne (pc := 11) C 16 dX5_item_11 (by decide) (fun hc4 => ?_) (fun hc4 => ?_)
    · have hf := bb_e hf hc4
      refine z_aload_n (pc := 16) (i := 0) C 0 dX5_item_16 rfl rfl ?_
      refine z_iload_n (pc := 17) (i := 1) C 1 dX5_item_17 rfl rfl ?_
      refine z_iload_n (pc := 18) (i := 2) C 2 dX5_item_18 rfl rfl ?_
      refine z_iload_n (pc := 19) (i := 3) C 3 dX5_item_19 rfl rfl ?_
      refine z_iconst (pc := 20) C (1 : Int32) dX5_item_20 (by decide) ?_
      obtain ⟨q5, hq5, hf⟩ := bb_b_some hf
      refine z_callVi (pc := 21) (ci := 5) (q0 := 0) (As := [.int x1, .int x2, .int x3, .int ((1 : Int32))]) (rest := []) C (hR.le (by decide)) (c_X5_why h hq5) (bb_cut_self _ _) bv_X5_why bm_X5_199 rfl rfl rfl rfl (Nat.le_of_ble_eq_true rfl) dX5_item_21 ?_
      refine z_istore (pc := 24) (lv' := [(6, .int q5), (0, .ref (h 0)), (1, .int x1), (2, .int x2), (3, .int x3), (4, .long x4)]) C dX5_item_24 (by decide) rfl ?_
      refine z_iload (pc := 26) C 0 dX5_item_26 rfl ?_
      refine z_if_ge (pc := 28) C 34 dX5_item_28 (by decide) (fun hc6 => ?_) (fun hc6 => ?_)
      · have hf := bb_t hf hc6
        refine z_aload_n (pc := 34) (i := 0) C 1 dX5_item_34 rfl rfl ?_
        refine z_get (pc := 35) (ci := 5) C (.ref (h 17)) bi_X5 rfl 0 16 (by decide) rfl bf_X5_34 rfl rfl dX5_item_35 ?_
        refine z_bipush (pc := 38) C (24 : Int32) dX5_item_38 (by decide) ?_
        refine z_iload_n (pc := 40) (i := 1) C 2 dX5_item_40 rfl rfl ?_
        refine z_imul (pc := 41) C dX5_item_41 ?_
        refine z_iload_n (pc := 42) (i := 3) C 4 dX5_item_42 rfl rfl ?_
        refine z_iadd (pc := 43) C dX5_item_43 ?_
        refine z_iload_n (pc := 44) (i := 2) C 3 dX5_item_44 rfl rfl ?_
        refine z_if_ne (pc := 45) C 56 dX5_item_45 (by decide) (fun hc7 => ?_) (fun hc7 => ?_)
        · have hf := bb_e hf hc7
          refine z_iload_n (pc := 56) (i := 2) C 3 dX5_item_56 rfl rfl ?_
          refine z_iconst (pc := 57) C (1 : Int32) dX5_item_57 (by decide) ?_
          refine z_icmp_ne (pc := 58) C 69 dX5_item_58 (by decide) (fun hc8 => ?_) (fun hc8 => ?_)
          · have hf := bb_e hf hc8
            refine z_iload_n (pc := 69) (i := 2) C 3 dX5_item_69 rfl rfl ?_
            refine z_iconst (pc := 70) C (2 : Int32) dX5_item_70 (by decide) ?_
            refine z_icmp_ne (pc := 71) C 81 dX5_item_71 (by decide) (fun hc9 => ?_) (fun hc9 => ?_)
            · have hf := bb_e hf hc9
              refine z_lload (pc := 81) C 5 dX5_item_81 rfl ?_
              refine z_lv [] rfl ?_
              exact B_X5_item_83 C hR hr h R  hf
            · have hf := bb_t hf hc9
              refine z_lload (pc := 74) C 5 dX5_item_74 rfl ?_
              refine z_l2i (pc := 76) C dX5_item_76 ?_
              refine z_i2l (pc := 77) C dX5_item_77 ?_
              refine z_goto (pc := 78) C 83 dX5_item_78 (by decide) ?_
              refine z_lv [] rfl ?_
              exact B_X5_item_83 C hR hr h R  hf
          · have hf := bb_t hf hc8
            refine z_lload (pc := 61) C 5 dX5_item_61 rfl ?_
            refine z_l2i (pc := 63) C dX5_item_63 ?_
            refine z_i2s (pc := 64) C dX5_item_64 ?_
            refine z_i2l (pc := 65) C dX5_item_65 ?_
            refine z_goto (pc := 66) C 83 dX5_item_66 (by decide) ?_
            refine z_lv [] rfl ?_
            exact B_X5_item_83 C hR hr h R  hf
        · have hf := bb_t hf hc7
          refine z_lload (pc := 48) C 5 dX5_item_48 rfl ?_
          refine z_l2i (pc := 50) C dX5_item_50 ?_
          refine z_i2b (pc := 51) C dX5_item_51 ?_
          refine z_i2l (pc := 52) C dX5_item_52 ?_
          refine z_goto (pc := 53) C 83 dX5_item_53 (by decide) ?_
          refine z_lv [] rfl ?_
          exact B_X5_item_83 C hR hr h R  hf
      · have hf := bb_e hf hc6
        refine z_iload (pc := 31) C 0 dX5_item_31 rfl ?_
        obtain rfl := Option.some.inj hf
        exact z_iret (pc := 33) C hr R dX5_item_33
    · have hf := bb_t hf hc4
      refine z_lv [] rfl ?_
      exact B_X5_item_14 C hR hr h R  hf
theorem c_X5_item {l : Launch} {D : va_G} {cs : Nat → ClassId} (h : Nat → Nat) {s0 : bb_O} {x1 : Int32} {x2 : Int32} {x3 : Int32} {x4 : Int64} {z : (Int32 × bb_O)} (hf : F_X5_item_0 s0 x1 x2 x3 x4 = some z) : bb_M l yX5_item cX5_item 7 (some .int) 3 D cs [.ref (h 0), .int x1, .int x2, .int x3, .long x4] (some (.int z.1)) (wX5 cs h s0) (wX5 cs h z.2) := bb_mg (by decide) rfl (Nat.le_of_ble_eq_true rfl) rfl (fun X hl hD hcs C hR hr R => by
  subst hl
  subst hD
  subst hcs
  exact B_X5_item_0 C hR hr h R hf)
/-! X5_copy: writes, level 3 -/
noncomputable def F_X5_copy_14 (s0 : bb_O) : Option (Int32 × bb_O) := some ((-1 : Int32), s0)
set_option maxHeartbeats 4000000 in
set_option maxRecDepth 100000 in
theorem B_X5_copy_14 {X : bb_X} (C : bb_C X RX5 cX5_copy 8) (hR : bb_r X 3) (hr : X.meth.sig.returnType = (some .int)) (h : Nat → Nat) {z : (Int32 × bb_O)} (R : bb_R X (some (.int z.1)) (wX5 X.cs h z.2)) {s0 : bb_O} (hf : F_X5_copy_14 s0 = some z) : bb_Z X 8 (wX5 X.cs h s0) 14 [] [] := by
  refine z_iconst (pc := 14) C (-1 : Int32) dX5_copy_14 (by decide) ?_
  obtain rfl := Option.some.inj hf
  exact z_iret (pc := 15) C hr R dX5_copy_15
noncomputable def F_X5_copy_34 (s0 : bb_O) : Option (Int32 × bb_O) := some ((-11 : Int32), s0)
set_option maxHeartbeats 4000000 in
set_option maxRecDepth 100000 in
theorem B_X5_copy_34 {X : bb_X} (C : bb_C X RX5 cX5_copy 8) (hR : bb_r X 3) (hr : X.meth.sig.returnType = (some .int)) (h : Nat → Nat) {z : (Int32 × bb_O)} (R : bb_R X (some (.int z.1)) (wX5 X.cs h z.2)) {s0 : bb_O} (hf : F_X5_copy_34 s0 = some z) : bb_Z X 8 (wX5 X.cs h s0) 34 [] [] := by
  refine z_bipush (pc := 34) C (-11 : Int32) dX5_copy_34 (by decide) ?_
  obtain rfl := Option.some.inj hf
  exact z_iret (pc := 36) C hr R dX5_copy_36
noncomputable def F_X5_copy_157 (k128 : bb_O → Int32 → Int32 → Int32 → Int32 → Option (Int32 × bb_O)) (s0 : bb_O) (x3 : Int32) (x4 : Int32) (x5 : Int32) (x7 : Int32) : Option (Int32 × bb_O) := k128 s0 x3 x4 x5 (x7 + 1)
set_option maxHeartbeats 4000000 in
set_option maxRecDepth 100000 in
theorem B_X5_copy_157 {X : bb_X} (C : bb_C X RX5 cX5_copy 8) (hR : bb_r X 3) (hr : X.meth.sig.returnType = (some .int)) (h : Nat → Nat) {z : (Int32 × bb_O)} (R : bb_R X (some (.int z.1)) (wX5 X.cs h z.2)) {k128 : bb_O → Int32 → Int32 → Int32 → Int32 → Option (Int32 × bb_O)} (hk128 : ∀ (s0 : bb_O) (x3 : Int32) (x4 : Int32) (x5 : Int32) (x7 : Int32), k128 s0 x3 x4 x5 x7 = some z → bb_Z X 8 (wX5 X.cs h s0) 128 [(0, .ref (h 0)), (3, .int x3), (4, .int x4), (5, .int x5), (7, .int x7)] []) {s0 : bb_O} {x3 : Int32} {x4 : Int32} {x5 : Int32} {x7 : Int32} (hf : F_X5_copy_157 k128 s0 x3 x4 x5 x7 = some z) : bb_Z X 8 (wX5 X.cs h s0) 157 [(0, .ref (h 0)), (3, .int x3), (4, .int x4), (5, .int x5), (7, .int x7)] [] := by
  refine z_iinc (pc := 157) (lv' := [(7, .int (x7 + 1)), (0, .ref (h 0)), (3, .int x3), (4, .int x4), (5, .int x5)]) C (x7 + 1) 4 dX5_copy_157 rfl rfl (by decide) rfl ?_
  refine z_goto (pc := 160) C 128 dX5_copy_160 (by decide) ?_
  refine z_lv [1, 2, 3, 4, 0] rfl ?_
  exact hk128 _ _ _ _ _ hf
noncomputable def G_X5_copy_128 (k128 : bb_O → Int32 → Int32 → Int32 → Int32 → Option (Int32 × bb_O)) (s0 : bb_O) (x3 : Int32) (x4 : Int32) (x5 : Int32) (x7 : Int32) : Option (Int32 × bb_O) := if x5 ≤ x7 then (some (x5, s0)) else (bb_g (vp_in x7 24) (bb_g (vp_in (((((24 : Int32)) * x3) + x4) + x7) 96) (F_X5_copy_157 k128 (bb_sB s0 16 (vp_updL (s0.2.2 16) (((((24 : Int32)) * x3) + x4) + x7).toNatClampNeg (s0.2.2 17 x7.toNatClampNeg))) x3 x4 x5 x7)))
noncomputable def F_X5_copy_128  : Nat → bb_O → Int32 → Int32 → Int32 → Int32 → Option (Int32 × bb_O)
  | 0, _, _, _, _, _ => none
  | n + 1, s0, x3, x4, x5, x7 => G_X5_copy_128  (F_X5_copy_128  n) s0 x3 x4 x5 x7
set_option maxHeartbeats 4000000 in
set_option maxRecDepth 100000 in
theorem A_X5_copy_128 {X : bb_X} (C : bb_C X RX5 cX5_copy 8) (hR : bb_r X 3) (hr : X.meth.sig.returnType = (some .int)) (h : Nat → Nat) {z : (Int32 × bb_O)} (R : bb_R X (some (.int z.1)) (wX5 X.cs h z.2)) {k128 : bb_O → Int32 → Int32 → Int32 → Int32 → Option (Int32 × bb_O)} (hk128 : ∀ (s0 : bb_O) (x3 : Int32) (x4 : Int32) (x5 : Int32) (x7 : Int32), k128 s0 x3 x4 x5 x7 = some z → bb_Z X 8 (wX5 X.cs h s0) 128 [(0, .ref (h 0)), (3, .int x3), (4, .int x4), (5, .int x5), (7, .int x7)] []) {s0 : bb_O} {x3 : Int32} {x4 : Int32} {x5 : Int32} {x7 : Int32} (hf : G_X5_copy_128 k128 s0 x3 x4 x5 x7 = some z) : bb_Z X 8 (wX5 X.cs h s0) 128 [(0, .ref (h 0)), (3, .int x3), (4, .int x4), (5, .int x5), (7, .int x7)] [] := by
  refine z_iload (pc := 128) C 4 dX5_copy_128 rfl ?_
  refine z_iload (pc := 130) C 3 dX5_copy_130 rfl ?_
  refine z_icmp_ge (pc := 132) C 163 dX5_copy_132 (by decide) (fun hc1 => ?_) (fun hc1 => ?_)
  · have hf := bb_t hf hc1
    refine z_iload (pc := 163) C 3 dX5_copy_163 rfl ?_
    obtain rfl := Option.some.inj hf
    exact z_iret (pc := 165) C hr R dX5_copy_165
  · have hf := bb_e hf hc1
    refine z_aload_n (pc := 135) (i := 0) C 0 dX5_copy_135 rfl rfl ?_
    refine z_get (pc := 136) (ci := 5) C (.ref (h 17)) bi_X5 rfl 0 16 (by decide) rfl bf_X5_34 rfl rfl dX5_copy_136 ?_
    refine z_bipush (pc := 139) C (24 : Int32) dX5_copy_139 (by decide) ?_
    refine z_iload_n (pc := 141) (i := 3) C 1 dX5_copy_141 rfl rfl ?_
    refine z_imul (pc := 142) C dX5_copy_142 ?_
    refine z_iload (pc := 143) C 2 dX5_copy_143 rfl ?_
    refine z_iadd (pc := 145) C dX5_copy_145 ?_
    refine z_iload (pc := 146) C 4 dX5_copy_146 rfl ?_
    refine z_iadd (pc := 148) C dX5_copy_148 ?_
    refine z_aload_n (pc := 149) (i := 0) C 0 dX5_copy_149 rfl rfl ?_
    refine z_get (pc := 150) (ci := 5) C (.ref (h 18)) bi_X5 rfl 0 17 (by decide) rfl bf_X5_38 rfl rfl dX5_copy_150 ?_
    refine z_iload (pc := 153) C 4 dX5_copy_153 rfl ?_
    obtain ⟨hv2, hf⟩ := bb_g_some hf
    refine z_lald (pc := 155) C 10 1 (x7.toNatClampNeg) rfl rfl hv2 rfl dX5_copy_155 ?_
    obtain ⟨hv3, hf⟩ := bb_g_some hf
    refine z_last (pc := 156) (ws' := wX5 X.cs h (bb_sB s0 16 (vp_updL (s0.2.2 16) (((((24 : Int32)) * x3) + x4) + x7).toNatClampNeg (s0.2.2 17 x7.toNatClampNeg)))) C 9 1 ((((((24 : Int32)) * x3) + x4) + x7).toNatClampNeg) rfl rfl hv3 rfl rfl dX5_copy_156 ?_
    exact B_X5_copy_157 C hR hr h R hk128 hf
theorem B_X5_copy_128 {X : bb_X} (C : bb_C X RX5 cX5_copy 8) (hR : bb_r X 3) (hr : X.meth.sig.returnType = (some .int)) (h : Nat → Nat) {z : (Int32 × bb_O)} (R : bb_R X (some (.int z.1)) (wX5 X.cs h z.2)) : ∀ (n : Nat) (s0 : bb_O) (x3 : Int32) (x4 : Int32) (x5 : Int32) (x7 : Int32), F_X5_copy_128  n s0 x3 x4 x5 x7 = some z → bb_Z X 8 (wX5 X.cs h s0) 128 [(0, .ref (h 0)), (3, .int x3), (4, .int x4), (5, .int x5), (7, .int x7)] [] := by
  intro n
  induction n with
  | zero =>
    intro s0 x3 x4 x5 x7 hf
    cases hf
  | succ n ih =>
    intro s0 x3 x4 x5 x7 hf
    exact A_X5_copy_128 C hR hr h R  ih hf
noncomputable def F_X5_copy_119 (k91 : bb_O → Int32 → Int32 → Int32 → Int32 → Int32 → Int32 → Option (Int32 × bb_O)) (s0 : bb_O) (x1 : Int32) (x2 : Int32) (x3 : Int32) (x4 : Int32) (x5 : Int32) (x7 : Int32) : Option (Int32 × bb_O) := k91 s0 x1 x2 x3 x4 x5 (x7 + 1)
set_option maxHeartbeats 4000000 in
set_option maxRecDepth 100000 in
theorem B_X5_copy_119 {X : bb_X} (C : bb_C X RX5 cX5_copy 8) (hR : bb_r X 3) (hr : X.meth.sig.returnType = (some .int)) (h : Nat → Nat) {z : (Int32 × bb_O)} (R : bb_R X (some (.int z.1)) (wX5 X.cs h z.2)) {k91 : bb_O → Int32 → Int32 → Int32 → Int32 → Int32 → Int32 → Option (Int32 × bb_O)} (hk91 : ∀ (s0 : bb_O) (x1 : Int32) (x2 : Int32) (x3 : Int32) (x4 : Int32) (x5 : Int32) (x7 : Int32), k91 s0 x1 x2 x3 x4 x5 x7 = some z → bb_Z X 8 (wX5 X.cs h s0) 91 [(0, .ref (h 0)), (1, .int x1), (2, .int x2), (3, .int x3), (4, .int x4), (5, .int x5), (7, .int x7)] []) {s0 : bb_O} {x1 : Int32} {x2 : Int32} {x3 : Int32} {x4 : Int32} {x5 : Int32} {x7 : Int32} (hf : F_X5_copy_119 k91 s0 x1 x2 x3 x4 x5 x7 = some z) : bb_Z X 8 (wX5 X.cs h s0) 119 [(0, .ref (h 0)), (1, .int x1), (2, .int x2), (3, .int x3), (4, .int x4), (5, .int x5), (7, .int x7)] [] := by
  refine z_iinc (pc := 119) (lv' := [(7, .int (x7 + 1)), (0, .ref (h 0)), (1, .int x1), (2, .int x2), (3, .int x3), (4, .int x4), (5, .int x5)]) C (x7 + 1) 6 dX5_copy_119 rfl rfl (by decide) rfl ?_
  refine z_goto (pc := 122) C 91 dX5_copy_122 (by decide) ?_
  refine z_lv [1, 2, 3, 4, 5, 6, 0] rfl ?_
  exact hk91 _ _ _ _ _ _ _ hf
noncomputable def G_X5_copy_91 (k91 : bb_O → Int32 → Int32 → Int32 → Int32 → Int32 → Int32 → Option (Int32 × bb_O)) (s0 : bb_O) (x1 : Int32) (x2 : Int32) (x3 : Int32) (x4 : Int32) (x5 : Int32) (x7 : Int32) : Option (Int32 × bb_O) := if x5 ≤ x7 then (F_X5_copy_128 bb_N s0 x3 x4 x5 ((0 : Int32))) else (bb_g (vp_in (((((24 : Int32)) * x1) + x2) + x7) 96) (bb_g (vp_in x7 24) (F_X5_copy_119 k91 (bb_sB s0 17 (vp_updL (s0.2.2 17) x7.toNatClampNeg (s0.2.2 16 (((((24 : Int32)) * x1) + x2) + x7).toNatClampNeg))) x1 x2 x3 x4 x5 x7)))
noncomputable def F_X5_copy_91  : Nat → bb_O → Int32 → Int32 → Int32 → Int32 → Int32 → Int32 → Option (Int32 × bb_O)
  | 0, _, _, _, _, _, _, _ => none
  | n + 1, s0, x1, x2, x3, x4, x5, x7 => G_X5_copy_91  (F_X5_copy_91  n) s0 x1 x2 x3 x4 x5 x7
set_option maxHeartbeats 4000000 in
set_option maxRecDepth 100000 in
theorem A_X5_copy_91 {X : bb_X} (C : bb_C X RX5 cX5_copy 8) (hR : bb_r X 3) (hr : X.meth.sig.returnType = (some .int)) (h : Nat → Nat) {z : (Int32 × bb_O)} (R : bb_R X (some (.int z.1)) (wX5 X.cs h z.2)) {k91 : bb_O → Int32 → Int32 → Int32 → Int32 → Int32 → Int32 → Option (Int32 × bb_O)} (hk91 : ∀ (s0 : bb_O) (x1 : Int32) (x2 : Int32) (x3 : Int32) (x4 : Int32) (x5 : Int32) (x7 : Int32), k91 s0 x1 x2 x3 x4 x5 x7 = some z → bb_Z X 8 (wX5 X.cs h s0) 91 [(0, .ref (h 0)), (1, .int x1), (2, .int x2), (3, .int x3), (4, .int x4), (5, .int x5), (7, .int x7)] []) {s0 : bb_O} {x1 : Int32} {x2 : Int32} {x3 : Int32} {x4 : Int32} {x5 : Int32} {x7 : Int32} (hf : G_X5_copy_91 k91 s0 x1 x2 x3 x4 x5 x7 = some z) : bb_Z X 8 (wX5 X.cs h s0) 91 [(0, .ref (h 0)), (1, .int x1), (2, .int x2), (3, .int x3), (4, .int x4), (5, .int x5), (7, .int x7)] [] := by
  refine z_iload (pc := 91) C 6 dX5_copy_91 rfl ?_
  refine z_iload (pc := 93) C 5 dX5_copy_93 rfl ?_
  refine z_icmp_ge (pc := 95) C 125 dX5_copy_95 (by decide) (fun hc1 => ?_) (fun hc1 => ?_)
  · have hf := bb_t hf hc1
    refine z_iconst (pc := 125) C (0 : Int32) dX5_copy_125 (by decide) ?_
    refine z_istore (pc := 126) (lv' := [(7, .int ((0 : Int32))), (0, .ref (h 0)), (1, .int x1), (2, .int x2), (3, .int x3), (4, .int x4), (5, .int x5)]) C dX5_copy_126 (by decide) rfl ?_
    refine z_lv [1, 4, 5, 6, 0] rfl ?_
    exact B_X5_copy_128 C hR hr h R  bb_N _ _ _ _ _ hf
  · have hf := bb_e hf hc1
    refine z_aload_n (pc := 98) (i := 0) C 0 dX5_copy_98 rfl rfl ?_
    refine z_get (pc := 99) (ci := 5) C (.ref (h 18)) bi_X5 rfl 0 17 (by decide) rfl bf_X5_38 rfl rfl dX5_copy_99 ?_
    refine z_iload (pc := 102) C 6 dX5_copy_102 rfl ?_
    refine z_aload_n (pc := 104) (i := 0) C 0 dX5_copy_104 rfl rfl ?_
    refine z_get (pc := 105) (ci := 5) C (.ref (h 17)) bi_X5 rfl 0 16 (by decide) rfl bf_X5_34 rfl rfl dX5_copy_105 ?_
    refine z_bipush (pc := 108) C (24 : Int32) dX5_copy_108 (by decide) ?_
    refine z_iload_n (pc := 110) (i := 1) C 1 dX5_copy_110 rfl rfl ?_
    refine z_imul (pc := 111) C dX5_copy_111 ?_
    refine z_iload_n (pc := 112) (i := 2) C 2 dX5_copy_112 rfl rfl ?_
    refine z_iadd (pc := 113) C dX5_copy_113 ?_
    refine z_iload (pc := 114) C 6 dX5_copy_114 rfl ?_
    refine z_iadd (pc := 116) C dX5_copy_116 ?_
    obtain ⟨hv2, hf⟩ := bb_g_some hf
    refine z_lald (pc := 117) C 9 1 ((((((24 : Int32)) * x1) + x2) + x7).toNatClampNeg) rfl rfl hv2 rfl dX5_copy_117 ?_
    obtain ⟨hv3, hf⟩ := bb_g_some hf
    refine z_last (pc := 118) (ws' := wX5 X.cs h (bb_sB s0 17 (vp_updL (s0.2.2 17) x7.toNatClampNeg (s0.2.2 16 (((((24 : Int32)) * x1) + x2) + x7).toNatClampNeg)))) C 10 1 (x7.toNatClampNeg) rfl rfl hv3 rfl rfl dX5_copy_118 ?_
    exact B_X5_copy_119 C hR hr h R hk91 hf
theorem B_X5_copy_91 {X : bb_X} (C : bb_C X RX5 cX5_copy 8) (hR : bb_r X 3) (hr : X.meth.sig.returnType = (some .int)) (h : Nat → Nat) {z : (Int32 × bb_O)} (R : bb_R X (some (.int z.1)) (wX5 X.cs h z.2)) : ∀ (n : Nat) (s0 : bb_O) (x1 : Int32) (x2 : Int32) (x3 : Int32) (x4 : Int32) (x5 : Int32) (x7 : Int32), F_X5_copy_91  n s0 x1 x2 x3 x4 x5 x7 = some z → bb_Z X 8 (wX5 X.cs h s0) 91 [(0, .ref (h 0)), (1, .int x1), (2, .int x2), (3, .int x3), (4, .int x4), (5, .int x5), (7, .int x7)] [] := by
  intro n
  induction n with
  | zero =>
    intro s0 x1 x2 x3 x4 x5 x7 hf
    cases hf
  | succ n ih =>
    intro s0 x1 x2 x3 x4 x5 x7 hf
    exact A_X5_copy_91 C hR hr h R  ih hf
noncomputable def F_X5_copy_78 (s0 : bb_O) (x1 : Int32) (x2 : Int32) (x3 : Int32) (x4 : Int32) (x5 : Int32) (y0 : Int32) : Option (Int32 × bb_O) := if 0 ≤ y0 then (F_X5_copy_91 bb_N s0 x1 x2 x3 x4 x5 ((0 : Int32))) else (some (y0, s0))
set_option maxHeartbeats 4000000 in
set_option maxRecDepth 100000 in
theorem B_X5_copy_78 {X : bb_X} (C : bb_C X RX5 cX5_copy 8) (hR : bb_r X 3) (hr : X.meth.sig.returnType = (some .int)) (h : Nat → Nat) {z : (Int32 × bb_O)} (R : bb_R X (some (.int z.1)) (wX5 X.cs h z.2)) {s0 : bb_O} {x1 : Int32} {x2 : Int32} {x3 : Int32} {x4 : Int32} {x5 : Int32} {y0 : Int32} (hf : F_X5_copy_78 s0 x1 x2 x3 x4 x5 y0 = some z) : bb_Z X 8 (wX5 X.cs h s0) 78 [(0, .ref (h 0)), (1, .int x1), (2, .int x2), (3, .int x3), (4, .int x4), (5, .int x5)] [.int y0] := by
  refine z_istore (pc := 78) (lv' := [(6, .int y0), (0, .ref (h 0)), (1, .int x1), (2, .int x2), (3, .int x3), (4, .int x4), (5, .int x5)]) C dX5_copy_78 (by decide) rfl ?_
  refine z_iload (pc := 80) C 0 dX5_copy_80 rfl ?_
  refine z_if_ge (pc := 82) C 88 dX5_copy_82 (by decide) (fun hc1 => ?_) (fun hc1 => ?_)
  · have hf := bb_t hf hc1
    refine z_iconst (pc := 88) C (0 : Int32) dX5_copy_88 (by decide) ?_
    refine z_istore (pc := 89) (lv' := [(7, .int ((0 : Int32))), (6, .int y0), (0, .ref (h 0)), (1, .int x1), (2, .int x2), (3, .int x3), (4, .int x4), (5, .int x5)]) C dX5_copy_89 (by decide) rfl ?_
    refine z_lv [2, 3, 4, 5, 6, 7, 0] rfl ?_
    exact B_X5_copy_91 C hR hr h R  bb_N _ _ _ _ _ _ _ hf
  · have hf := bb_e hf hc1
    refine z_iload (pc := 85) C 0 dX5_copy_85 rfl ?_
    obtain rfl := Option.some.inj hf
    exact z_iret (pc := 87) C hr R dX5_copy_87
noncomputable def F_X5_copy_0 (s0 : bb_O) (x1 : Int32) (x2 : Int32) (x3 : Int32) (x4 : Int32) (x5 : Int32) : Option (Int32 × bb_O) := (F_X5_isSheet_0 x1).bind (fun q1 => if q1 = 0 then (F_X5_copy_14 s0) else ((F_X5_isSheet_0 x3).bind (fun q3 => if q3 = 0 then (F_X5_copy_14 s0) else (bb_g (vp_in x1 4) (if (s0.2.1 14 x1.toNatClampNeg) < 0 then (F_X5_copy_34 s0) else (bb_g (vp_in x3 4) (if 0 ≤ (s0.2.1 14 x3.toNatClampNeg) then (bb_g (vp_in x1 4) ((F_X5_why_0 s0 x3 (s0.2.1 14 x1.toNatClampNeg) x4 x5).bind (fun q10 => if q10 = 0 then (bb_g (vp_in x1 4) ((F_X5_why_0 s0 x1 (s0.2.1 14 x1.toNatClampNeg) x2 x5).bind (fun q13 => F_X5_copy_78 s0 x1 x2 x3 x4 x5 q13))) else (F_X5_copy_78 s0 x1 x2 x3 x4 x5 q10)))) else (F_X5_copy_34 s0))))))))
set_option maxHeartbeats 4000000 in
set_option maxRecDepth 100000 in
theorem B_X5_copy_0 {X : bb_X} (C : bb_C X RX5 cX5_copy 8) (hR : bb_r X 3) (hr : X.meth.sig.returnType = (some .int)) (h : Nat → Nat) {z : (Int32 × bb_O)} (R : bb_R X (some (.int z.1)) (wX5 X.cs h z.2)) {s0 : bb_O} {x1 : Int32} {x2 : Int32} {x3 : Int32} {x4 : Int32} {x5 : Int32} (hf : F_X5_copy_0 s0 x1 x2 x3 x4 x5 = some z) : bb_Z X 8 (wX5 X.cs h s0) 0 [(0, .ref (h 0)), (1, .int x1), (2, .int x2), (3, .int x3), (4, .int x4), (5, .int x5)] [] := by
  refine z_iload_n (pc := 0) (i := 1) C 1 dX5_copy_0 rfl rfl ?_
  obtain ⟨q1, hq1, hf⟩ := bb_b_some hf
  refine z_callSi (pc := 1) (As := [.int x1]) (rest := []) C (hR.le (by decide)) (c_X5_isSheet hq1) (bb_cut_none _) bv_X5_isSheet bm_X5_193 rfl rfl (Nat.le_of_ble_eq_true rfl) dX5_copy_1 ?_
  refine z_if_eq (pc := 4) C 14 dX5_copy_4 (by decide) (fun hc2 => ?_) (fun hc2 => ?_)
  · have hf := bb_t hf hc2
    refine z_lv [] rfl ?_
    exact B_X5_copy_14 C hR hr h R  hf
  · have hf := bb_e hf hc2
    refine z_iload_n (pc := 7) (i := 3) C 3 dX5_copy_7 rfl rfl ?_
    obtain ⟨q3, hq3, hf⟩ := bb_b_some hf
    refine z_callSi (pc := 8) (As := [.int x3]) (rest := []) C (hR.le (by decide)) (c_X5_isSheet hq3) (bb_cut_none _) bv_X5_isSheet bm_X5_193 rfl rfl (Nat.le_of_ble_eq_true rfl) dX5_copy_8 ?_
    refine z_if_ne (pc := 11) C 16 dX5_copy_11 (by decide) (fun hc4 => ?_) (fun hc4 => ?_)
    · have hf := bb_e hf hc4
      refine z_aload_n (pc := 16) (i := 0) C 0 dX5_copy_16 rfl rfl ?_
      refine z_get (pc := 17) (ci := 5) C (.ref (h 15)) bi_X5 rfl 0 14 (by decide) rfl bf_X5_28 rfl rfl dX5_copy_17 ?_
      refine z_iload_n (pc := 20) (i := 1) C 1 dX5_copy_20 rfl rfl ?_
      obtain ⟨hv5, hf⟩ := bb_g_some hf
      refine z_iald (pc := 21) C 7 0 (x1.toNatClampNeg) rfl rfl hv5 rfl dX5_copy_21 ?_
      refine z_if_lt (pc := 22) C 34 dX5_copy_22 (by decide) (fun hc6 => ?_) (fun hc6 => ?_)
      · have hf := bb_t hf hc6
        refine z_lv [] rfl ?_
        exact B_X5_copy_34 C hR hr h R  hf
      · have hf := bb_e hf hc6
        refine z_aload_n (pc := 25) (i := 0) C 0 dX5_copy_25 rfl rfl ?_
        refine z_get (pc := 26) (ci := 5) C (.ref (h 15)) bi_X5 rfl 0 14 (by decide) rfl bf_X5_28 rfl rfl dX5_copy_26 ?_
        refine z_iload_n (pc := 29) (i := 3) C 3 dX5_copy_29 rfl rfl ?_
        obtain ⟨hv7, hf⟩ := bb_g_some hf
        refine z_iald (pc := 30) C 7 0 (x3.toNatClampNeg) rfl rfl hv7 rfl dX5_copy_30 ?_
        refine z_if_ge (pc := 31) C 37 dX5_copy_31 (by decide) (fun hc8 => ?_) (fun hc8 => ?_)
        · have hf := bb_t hf hc8
          refine z_aload_n (pc := 37) (i := 0) C 0 dX5_copy_37 rfl rfl ?_
          refine z_iload_n (pc := 38) (i := 3) C 3 dX5_copy_38 rfl rfl ?_
          refine z_aload_n (pc := 39) (i := 0) C 0 dX5_copy_39 rfl rfl ?_
          refine z_get (pc := 40) (ci := 5) C (.ref (h 15)) bi_X5 rfl 0 14 (by decide) rfl bf_X5_28 rfl rfl dX5_copy_40 ?_
          refine z_iload_n (pc := 43) (i := 1) C 1 dX5_copy_43 rfl rfl ?_
          obtain ⟨hv9, hf⟩ := bb_g_some hf
          refine z_iald (pc := 44) C 7 0 (x1.toNatClampNeg) rfl rfl hv9 rfl dX5_copy_44 ?_
          refine z_iload (pc := 45) C 4 dX5_copy_45 rfl ?_
          refine z_iload (pc := 47) C 5 dX5_copy_47 rfl ?_
          obtain ⟨q10, hq10, hf⟩ := bb_b_some hf
          refine z_callVi (pc := 49) (ci := 5) (q0 := 0) (As := [.int x3, .int (s0.2.1 14 x1.toNatClampNeg), .int x4, .int x5]) (rest := []) C (hR.le (by decide)) (c_X5_why h hq10) (bb_cut_self _ _) bv_X5_why bm_X5_199 rfl rfl rfl rfl (Nat.le_of_ble_eq_true rfl) dX5_copy_49 ?_
          refine z_istore (pc := 52) (lv' := [(6, .int q10), (0, .ref (h 0)), (1, .int x1), (2, .int x2), (3, .int x3), (4, .int x4), (5, .int x5)]) C dX5_copy_52 (by decide) rfl ?_
          refine z_iload (pc := 54) C 0 dX5_copy_54 rfl ?_
          refine z_if_ne (pc := 56) C 76 dX5_copy_56 (by decide) (fun hc11 => ?_) (fun hc11 => ?_)
          · have hf := bb_e hf hc11
            refine z_iload (pc := 76) C 0 dX5_copy_76 rfl ?_
            refine z_lv [1, 2, 3, 4, 5, 6] rfl ?_
            exact B_X5_copy_78 C hR hr h R  hf
          · have hf := bb_t hf hc11
            refine z_aload_n (pc := 59) (i := 0) C 1 dX5_copy_59 rfl rfl ?_
            refine z_iload_n (pc := 60) (i := 1) C 2 dX5_copy_60 rfl rfl ?_
            refine z_aload_n (pc := 61) (i := 0) C 1 dX5_copy_61 rfl rfl ?_
            refine z_get (pc := 62) (ci := 5) C (.ref (h 15)) bi_X5 rfl 0 14 (by decide) rfl bf_X5_28 rfl rfl dX5_copy_62 ?_
            refine z_iload_n (pc := 65) (i := 1) C 2 dX5_copy_65 rfl rfl ?_
            obtain ⟨hv12, hf⟩ := bb_g_some hf
            refine z_iald (pc := 66) C 7 0 (x1.toNatClampNeg) rfl rfl hv12 rfl dX5_copy_66 ?_
            refine z_iload_n (pc := 67) (i := 2) C 3 dX5_copy_67 rfl rfl ?_
            refine z_iload (pc := 68) C 6 dX5_copy_68 rfl ?_
            obtain ⟨q13, hq13, hf⟩ := bb_b_some hf
            refine z_callVi (pc := 70) (ci := 5) (q0 := 0) (As := [.int x1, .int (s0.2.1 14 x1.toNatClampNeg), .int x2, .int x5]) (rest := []) C (hR.le (by decide)) (c_X5_why h hq13) (bb_cut_self _ _) bv_X5_why bm_X5_199 rfl rfl rfl rfl (Nat.le_of_ble_eq_true rfl) dX5_copy_70 ?_
            refine z_goto (pc := 73) C 78 dX5_copy_73 (by decide) ?_
            refine z_lv [1, 2, 3, 4, 5, 6] rfl ?_
            exact B_X5_copy_78 C hR hr h R  hf
        · have hf := bb_e hf hc8
          refine z_lv [] rfl ?_
          exact B_X5_copy_34 C hR hr h R  hf
    · have hf := bb_t hf hc4
      refine z_lv [] rfl ?_
      exact B_X5_copy_14 C hR hr h R  hf
theorem c_X5_copy {l : Launch} {D : va_G} {cs : Nat → ClassId} (h : Nat → Nat) {s0 : bb_O} {x1 : Int32} {x2 : Int32} {x3 : Int32} {x4 : Int32} {x5 : Int32} {z : (Int32 × bb_O)} (hf : F_X5_copy_0 s0 x1 x2 x3 x4 x5 = some z) : bb_M l yX5_copy cX5_copy 8 (some .int) 3 D cs [.ref (h 0), .int x1, .int x2, .int x3, .int x4, .int x5] (some (.int z.1)) (wX5 cs h s0) (wX5 cs h z.2) := bb_mg (by decide) rfl (Nat.le_of_ble_eq_true rfl) rfl (fun X hl hD hcs C hR hr R => by
  subst hl
  subst hD
  subst hcs
  exact B_X5_copy_0 C hR hr h R hf)
