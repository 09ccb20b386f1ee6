/-! X4_outside: reads, level 1 -/
noncomputable def F_X4_outside_15 (y0 : Int32) : Option Int32 := bb_g (bb_z y0) (some y0)
set_option maxHeartbeats 4000000 in
set_option maxRecDepth 100000 in
theorem B_X4_outside_15 {X : bb_X} (C : bb_C X RX4 cX4_outside 3) (hR : bb_r X 1) (hr : X.meth.sig.returnType = (some .boolean)) {z : Int32} (R : bb_R X (some (.int z)) ([])) {y0 : Int32} (hf : F_X4_outside_15 y0 = some z) : bb_Z X 3 ([]) 15 [] [.int y0] := by
  obtain ⟨hz1, hf⟩ := bb_g_some hf
  obtain rfl := Option.some.inj hf
  exact z_zret (pc := 15) C hr (bb_nz hz1) R dX4_outside_15
noncomputable def F_X4_outside_10  : Option Int32 := F_X4_outside_15 ((1 : Int32))
set_option maxHeartbeats 4000000 in
set_option maxRecDepth 100000 in
theorem B_X4_outside_10 {X : bb_X} (C : bb_C X RX4 cX4_outside 3) (hR : bb_r X 1) (hr : X.meth.sig.returnType = (some .boolean)) {z : Int32} (R : bb_R X (some (.int z)) ([]))  (hf : F_X4_outside_10  = some z) : bb_Z X 3 ([]) 10 [] [] := by
  refine z_iconst (pc := 10) C (1 : Int32) dX4_outside_10 (by decide) ?_
  refine z_goto (pc := 11) C 15 dX4_outside_11 (by decide) ?_
  exact B_X4_outside_15 C hR hr  R  hf
noncomputable def F_X4_outside_0 (x0 : Int32) (x1 : Int32) (x2 : Int32) : Option Int32 := if x0 < x1 then F_X4_outside_10 else (if x0 ≤ x2 then (F_X4_outside_15 ((0 : Int32))) else F_X4_outside_10)
set_option maxHeartbeats 4000000 in
set_option maxRecDepth 100000 in
theorem B_X4_outside_0 {X : bb_X} (C : bb_C X RX4 cX4_outside 3) (hR : bb_r X 1) (hr : X.meth.sig.returnType = (some .boolean)) {z : Int32} (R : bb_R X (some (.int z)) ([])) {x0 : Int32} {x1 : Int32} {x2 : Int32} (hf : F_X4_outside_0 x0 x1 x2 = some z) : bb_Z X 3 ([]) 0 [(0, .int x0), (1, .int x1), (2, .int x2)] [] := by
  refine z_iload_n (pc := 0) (i := 0) C 0 dX4_outside_0 rfl rfl ?_
  refine z_iload_n (pc := 1) (i := 1) C 1 dX4_outside_1 rfl rfl ?_
  refine z_icmp_lt (pc := 2) C 10 dX4_outside_2 (by decide) (fun hc1 => ?_) (fun hc1 => ?_)
  · have hf := bb_t hf hc1
    refine z_lv [] rfl ?_
    exact B_X4_outside_10 C hR hr  R  hf
  · have hf := bb_e hf hc1
    refine z_iload_n (pc := 5) (i := 0) C 0 dX4_outside_5 rfl rfl ?_
    refine z_iload_n (pc := 6) (i := 2) C 2 dX4_outside_6 rfl rfl ?_
    refine z_icmp_le (pc := 7) C 14 dX4_outside_7 (by decide) (fun hc2 => ?_) (fun hc2 => ?_)
    · have hf := bb_t hf hc2
      refine z_iconst (pc := 14) C (0 : Int32) dX4_outside_14 (by decide) ?_
      refine z_lv [] rfl ?_
      exact B_X4_outside_15 C hR hr  R  hf
    · have hf := bb_e hf hc2
      refine z_lv [] rfl ?_
      exact B_X4_outside_10 C hR hr  R  hf
theorem c_X4_outside {l : Launch} {D : va_G} {cs : Nat → ClassId} {x0 : Int32} {x1 : Int32} {x2 : Int32} {z : Int32} (hf : F_X4_outside_0 x0 x1 x2 = some z) : bb_M l yX4_outside cX4_outside 3 (some .boolean) 1 D cs [.int x0, .int x1, .int x2] (some (.int z)) ([]) ([]) := bb_mg (by decide) rfl (Nat.le_of_ble_eq_true rfl) rfl (fun X hl hD hcs C hR hr R => by
  subst hl
  subst hD
  subst hcs
  exact B_X4_outside_0 C hR hr  R hf)
/-! X4_streets: writes, level 2 -/
noncomputable def F_X4_streets_20 (s0 : bb_H) : Option (Int32 × bb_H) := some ((-1 : Int32), s0)
set_option maxHeartbeats 4000000 in
set_option maxRecDepth 100000 in
theorem B_X4_streets_20 {X : bb_X} (C : bb_C X RX4 cX4_streets 3) (hR : bb_r X 2) (hr : X.meth.sig.returnType = (some .int)) (h : Nat → Nat → Nat) {z : (Int32 × bb_H)} (R : bb_R X (some (.int z.1)) (wX4 X.cs h z.2)) {s0 : bb_H} (hf : F_X4_streets_20 s0 = some z) : bb_Z X 3 (wX4 X.cs h s0) 20 [] [] := by
  refine z_iconst (pc := 20) C (-1 : Int32) dX4_streets_20 (by decide) ?_
  obtain rfl := Option.some.inj hf
  exact z_iret (pc := 21) C hr R dX4_streets_21
noncomputable def F_X4_streets_0 (s0 : bb_H) (x1 : Int32) (x2 : Int32) : Option (Int32 × bb_H) := (F_X4_outside_0 x1 ((2 : Int32)) ((6 : Int32))).bind (fun q1 => if q1 = 0 then ((F_X4_outside_0 x2 ((2 : Int32)) ((6 : Int32))).bind (fun q3 => if q3 = 0 then ((F_X0_build_0 ((s0 0)) x1 x2).bind (fun q5 => (F_X1_forget_0 (((va_up s0 0 q5) 1))).bind (fun q6 => (F_X0_cells_0 (((va_up (va_up s0 0 q5) 1 q6) 0))).bind (fun q7 => some (q7, va_up (va_up s0 0 q5) 1 q6))))) else (F_X4_streets_20 s0))) else (F_X4_streets_20 s0))
set_option maxHeartbeats 4000000 in
set_option maxRecDepth 100000 in
theorem B_X4_streets_0 {X : bb_X} (C : bb_C X RX4 cX4_streets 3) (hR : bb_r X 2) (hr : X.meth.sig.returnType = (some .int)) (h : Nat → Nat → Nat) {z : (Int32 × bb_H)} (R : bb_R X (some (.int z.1)) (wX4 X.cs h z.2)) {s0 : bb_H} {x1 : Int32} {x2 : Int32} (hf : F_X4_streets_0 s0 x1 x2 = some z) : bb_Z X 3 (wX4 X.cs h s0) 0 [(0, .ref (h 5 0)), (1, .int x1), (2, .int x2)] [] := by
  refine z_iload_n (pc := 0) (i := 1) C 1 dX4_streets_0 rfl rfl ?_
  refine z_iconst (pc := 1) C (2 : Int32) dX4_streets_1 (by decide) ?_
  refine z_bipush (pc := 2) C (6 : Int32) dX4_streets_2 (by decide) ?_
  obtain ⟨q1, hq1, hf⟩ := bb_b_some hf
  refine z_callSi (pc := 4) (As := [.int x1, .int ((2 : Int32)), .int ((6 : Int32))]) (rest := []) C (hR.le (by decide)) (c_X4_outside hq1) (bb_cut_none _) bv_X4_outside bm_X4_46 rfl rfl (Nat.le_of_ble_eq_true rfl) dX4_streets_4 ?_
  refine z_if_ne (pc := 7) C 20 dX4_streets_7 (by decide) (fun hc2 => ?_) (fun hc2 => ?_)
  · have hf := bb_e hf hc2
    refine z_lv [] rfl ?_
    exact B_X4_streets_20 C hR hr h R  hf
  · have hf := bb_t hf hc2
    refine z_iload_n (pc := 10) (i := 2) C 2 dX4_streets_10 rfl rfl ?_
    refine z_iconst (pc := 11) C (2 : Int32) dX4_streets_11 (by decide) ?_
    refine z_bipush (pc := 12) C (6 : Int32) dX4_streets_12 (by decide) ?_
    obtain ⟨q3, hq3, hf⟩ := bb_b_some hf
    refine z_callSi (pc := 14) (As := [.int x2, .int ((2 : Int32)), .int ((6 : Int32))]) (rest := []) C (hR.le (by decide)) (c_X4_outside hq3) (bb_cut_none _) bv_X4_outside bm_X4_46 rfl rfl (Nat.le_of_ble_eq_true rfl) dX4_streets_14 ?_
    refine z_if_eq (pc := 17) C 22 dX4_streets_17 (by decide) (fun hc4 => ?_) (fun hc4 => ?_)
    · have hf := bb_t hf hc4
      refine z_aload_n (pc := 22) (i := 0) C 0 dX4_streets_22 rfl rfl ?_
      refine z_get (pc := 23) (ci := 4) C (.ref (h 0 0)) bi_X4 rfl 0 0 (by decide) rfl bf_X4_10 rfl rfl dX4_streets_23 ?_
      refine z_iload_n (pc := 26) (i := 1) C 1 dX4_streets_26 rfl rfl ?_
      refine z_iload_n (pc := 27) (i := 2) C 2 dX4_streets_27 rfl rfl ?_
      obtain ⟨q5, hq5, hf⟩ := bb_b_some hf
      refine z_callVv (pc := 28) (ci := 0) (q0 := 0) (As := [.int x1, .int x2]) (rest := []) (ws' := wX4 X.cs h (va_up s0 0 q5)) C (hR.le (by decide)) (c_X0_build (h 0) hq5) (cut_X4_0 _ _ _ _) bv_X0_build bm_X4_50 rfl rfl rfl rfl (Nat.le_of_ble_eq_true rfl) dX4_streets_28 ?_
      refine z_aload_n (pc := 31) (i := 0) C 0 dX4_streets_31 rfl rfl ?_
      refine z_get (pc := 32) (ci := 4) C (.ref (h 1 0)) bi_X4 rfl 0 1 (by decide) rfl bf_X4_19 rfl rfl dX4_streets_32 ?_
      obtain ⟨q6, hq6, hf⟩ := bb_b_some hf
      refine z_callVv (pc := 35) (ci := 1) (q0 := 0) (As := []) (rest := []) (ws' := wX4 X.cs h (va_up (va_up s0 0 q5) 1 q6)) C (hR.le (by decide)) (c_X1_forget (h 1) hq6) (cut_X4_1 _ _ _ _) bv_X1_forget bm_X4_54 rfl rfl rfl rfl (Nat.le_of_ble_eq_true rfl) dX4_streets_35 ?_
      refine z_aload_n (pc := 38) (i := 0) C 0 dX4_streets_38 rfl rfl ?_
      refine z_get (pc := 39) (ci := 4) C (.ref (h 0 0)) bi_X4 rfl 0 0 (by decide) rfl bf_X4_10 rfl rfl dX4_streets_39 ?_
      obtain ⟨q7, hq7, hf⟩ := bb_b_some hf
      refine z_callVi (pc := 42) (ci := 0) (q0 := 0) (As := []) (rest := []) C (hR.le (by decide)) (c_X0_cells (h 0) hq7) (cutp_X4_0 _ _ _) bv_X0_cells bm_X4_57 rfl rfl rfl rfl (Nat.le_of_ble_eq_true rfl) dX4_streets_42 ?_
      obtain rfl := Option.some.inj hf
      exact z_iret (pc := 45) C hr R dX4_streets_45
    · have hf := bb_e hf hc4
      refine z_lv [] rfl ?_
      exact B_X4_streets_20 C hR hr h R  hf
theorem c_X4_streets {l : Launch} {D : va_G} {cs : Nat → ClassId} (h : Nat → Nat → Nat) {s0 : bb_H} {x1 : Int32} {x2 : Int32} {z : (Int32 × bb_H)} (hf : F_X4_streets_0 s0 x1 x2 = some z) : bb_M l yX4_streets cX4_streets 3 (some .int) 2 D cs [.ref (h 5 0), .int x1, .int x2] (some (.int z.1)) (wX4 cs h s0) (wX4 cs h z.2) := bb_mg (by decide) rfl (Nat.le_of_ble_eq_true rfl) rfl (fun X hl hD hcs C hR hr R => by
  subst hl
  subst hD
  subst hcs
  exact B_X4_streets_0 C hR hr h R hf)
/-! X4_person: writes, level 2 -/
noncomputable def F_X4_person_47 (s0 : bb_H) : Option (Int32 × bb_H) := some ((-1 : Int32), s0)
set_option maxHeartbeats 4000000 in
set_option maxRecDepth 100000 in
theorem B_X4_person_47 {X : bb_X} (C : bb_C X RX4 cX4_person 5) (hR : bb_r X 2) (hr : X.meth.sig.returnType = (some .int)) (h : Nat → Nat → Nat) {z : (Int32 × bb_H)} (R : bb_R X (some (.int z.1)) (wX4 X.cs h z.2)) {s0 : bb_H} (hf : F_X4_person_47 s0 = some z) : bb_Z X 5 (wX4 X.cs h s0) 47 [] [] := by
  refine z_iconst (pc := 47) C (-1 : Int32) dX4_person_47 (by decide) ?_
  obtain rfl := Option.some.inj hf
  exact z_iret (pc := 48) C hr R dX4_person_48
noncomputable def F_X4_person_0 (s0 : bb_H) (x1 : Int32) (x2 : Int32) (x3 : Int32) (x4 : Int32) : Option (Int32 × bb_H) := (F_X4_outside_0 x1 ((0 : Int32)) ((4 : Int32))).bind (fun q1 => if q1 = 0 then ((F_X0_cells_0 ((s0 0))).bind (fun q3 => (F_X4_outside_0 x2 ((0 : Int32)) (q3 - ((1 : Int32)))).bind (fun q4 => if q4 = 0 then ((F_X4_outside_0 x3 ((0 : Int32)) ((9 : Int32))).bind (fun q6 => if q6 = 0 then ((F_X4_outside_0 x4 ((0 : Int32)) ((63 : Int32))).bind (fun q8 => if q8 = 0 then (if (((s0 0)).1 2) < ((6 : Int32)) then ((F_X1_forget_0 ((s0 1))).bind (fun q11 => (F_X0_enter_0 (((va_up s0 1 q11) 0)) x1 x2 x3 x4).bind (fun q12 => some (q12.1, va_up (va_up s0 1 q11) 0 q12.2)))) else (some ((-3 : Int32), s0))) else (F_X4_person_47 s0))) else (F_X4_person_47 s0))) else (F_X4_person_47 s0)))) else (F_X4_person_47 s0))
set_option maxHeartbeats 4000000 in
set_option maxRecDepth 100000 in
theorem B_X4_person_0 {X : bb_X} (C : bb_C X RX4 cX4_person 5) (hR : bb_r X 2) (hr : X.meth.sig.returnType = (some .int)) (h : Nat → Nat → Nat) {z : (Int32 × bb_H)} (R : bb_R X (some (.int z.1)) (wX4 X.cs h z.2)) {s0 : bb_H} {x1 : Int32} {x2 : Int32} {x3 : Int32} {x4 : Int32} (hf : F_X4_person_0 s0 x1 x2 x3 x4 = some z) : bb_Z X 5 (wX4 X.cs h s0) 0 [(0, .ref (h 5 0)), (1, .int x1), (2, .int x2), (3, .int x3), (4, .int x4)] [] := by
  refine z_iload_n (pc := 0) (i := 1) C 1 dX4_person_0 rfl rfl ?_
  refine z_iconst (pc := 1) C (0 : Int32) dX4_person_1 (by decide) ?_
  refine z_iconst (pc := 2) C (4 : Int32) dX4_person_2 (by decide) ?_
  obtain ⟨q1, hq1, hf⟩ := bb_b_some hf
  refine z_callSi (pc := 3) (As := [.int x1, .int ((0 : Int32)), .int ((4 : Int32))]) (rest := []) C (hR.le (by decide)) (c_X4_outside hq1) (bb_cut_none _) bv_X4_outside bm_X4_46 rfl rfl (Nat.le_of_ble_eq_true rfl) dX4_person_3 ?_
  refine z_if_ne (pc := 6) C 47 dX4_person_6 (by decide) (fun hc2 => ?_) (fun hc2 => ?_)
  · have hf := bb_e hf hc2
    refine z_lv [] rfl ?_
    exact B_X4_person_47 C hR hr h R  hf
  · have hf := bb_t hf hc2
    refine z_iload_n (pc := 9) (i := 2) C 2 dX4_person_9 rfl rfl ?_
    refine z_iconst (pc := 10) C (0 : Int32) dX4_person_10 (by decide) ?_
    refine z_aload_n (pc := 11) (i := 0) C 0 dX4_person_11 rfl rfl ?_
    refine z_get (pc := 12) (ci := 4) C (.ref (h 0 0)) bi_X4 rfl 0 0 (by decide) rfl bf_X4_10 rfl rfl dX4_person_12 ?_
    obtain ⟨q3, hq3, hf⟩ := bb_b_some hf
    refine z_callVi (pc := 15) (ci := 0) (q0 := 0) (As := []) (rest := [.int ((0 : Int32)), .int x2]) C (hR.le (by decide)) (c_X0_cells (h 0) hq3) (cutp_X4_0 _ _ _) bv_X0_cells bm_X4_57 rfl rfl rfl rfl (Nat.le_of_ble_eq_true rfl) dX4_person_15 ?_
    refine z_iconst (pc := 18) C (1 : Int32) dX4_person_18 (by decide) ?_
    refine z_isub (pc := 19) C dX4_person_19 ?_
    obtain ⟨q4, hq4, hf⟩ := bb_b_some hf
    refine z_callSi (pc := 20) (As := [.int x2, .int ((0 : Int32)), .int (q3 - ((1 : Int32)))]) (rest := []) C (hR.le (by decide)) (c_X4_outside hq4) (bb_cut_none _) bv_X4_outside bm_X4_46 rfl rfl (Nat.le_of_ble_eq_true rfl) dX4_person_20 ?_
    refine z_if_ne (pc := 23) C 47 dX4_person_23 (by decide) (fun hc5 => ?_) (fun hc5 => ?_)
    · have hf := bb_e hf hc5
      refine z_lv [] rfl ?_
      exact B_X4_person_47 C hR hr h R  hf
    · have hf := bb_t hf hc5
      refine z_iload_n (pc := 26) (i := 3) C 3 dX4_person_26 rfl rfl ?_
      refine z_iconst (pc := 27) C (0 : Int32) dX4_person_27 (by decide) ?_
      refine z_bipush (pc := 28) C (9 : Int32) dX4_person_28 (by decide) ?_
      obtain ⟨q6, hq6, hf⟩ := bb_b_some hf
      refine z_callSi (pc := 30) (As := [.int x3, .int ((0 : Int32)), .int ((9 : Int32))]) (rest := []) C (hR.le (by decide)) (c_X4_outside hq6) (bb_cut_none _) bv_X4_outside bm_X4_46 rfl rfl (Nat.le_of_ble_eq_true rfl) dX4_person_30 ?_
      refine z_if_ne (pc := 33) C 47 dX4_person_33 (by decide) (fun hc7 => ?_) (fun hc7 => ?_)
      · have hf := bb_e hf hc7
        refine z_lv [] rfl ?_
        exact B_X4_person_47 C hR hr h R  hf
      · have hf := bb_t hf hc7
        refine z_iload (pc := 36) C 4 dX4_person_36 rfl ?_
        refine z_iconst (pc := 38) C (0 : Int32) dX4_person_38 (by decide) ?_
        refine z_bipush (pc := 39) C (63 : Int32) dX4_person_39 (by decide) ?_
        obtain ⟨q8, hq8, hf⟩ := bb_b_some hf
        refine z_callSi (pc := 41) (As := [.int x4, .int ((0 : Int32)), .int ((63 : Int32))]) (rest := []) C (hR.le (by decide)) (c_X4_outside hq8) (bb_cut_none _) bv_X4_outside bm_X4_46 rfl rfl (Nat.le_of_ble_eq_true rfl) dX4_person_41 ?_
        refine z_if_eq (pc := 44) C 49 dX4_person_44 (by decide) (fun hc9 => ?_) (fun hc9 => ?_)
        · have hf := bb_t hf hc9
          refine z_aload_n (pc := 49) (i := 0) C 0 dX4_person_49 rfl rfl ?_
          refine z_get (pc := 50) (ci := 4) C (.ref (h 0 0)) bi_X4 rfl 0 0 (by decide) rfl bf_X4_10 rfl rfl dX4_person_50 ?_
          refine z_get (pc := 53) (ci := 0) C (.int (((s0 0)).1 2)) bi_X0 rfl 2 2 (by decide) rfl bf_X4_61 rfl rfl dX4_person_53 ?_
          refine z_bipush (pc := 56) C (6 : Int32) dX4_person_56 (by decide) ?_
          refine z_icmp_lt (pc := 58) C 64 dX4_person_58 (by decide) (fun hc10 => ?_) (fun hc10 => ?_)
          · have hf := bb_t hf hc10
            refine z_aload_n (pc := 64) (i := 0) C 0 dX4_person_64 rfl rfl ?_
            refine z_get (pc := 65) (ci := 4) C (.ref (h 1 0)) bi_X4 rfl 0 1 (by decide) rfl bf_X4_19 rfl rfl dX4_person_65 ?_
            obtain ⟨q11, hq11, hf⟩ := bb_b_some hf
            refine z_callVv (pc := 68) (ci := 1) (q0 := 0) (As := []) (rest := []) (ws' := wX4 X.cs h (va_up s0 1 q11)) C (hR.le (by decide)) (c_X1_forget (h 1) hq11) (cut_X4_1 _ _ _ _) bv_X1_forget bm_X4_54 rfl rfl rfl rfl (Nat.le_of_ble_eq_true rfl) dX4_person_68 ?_
            refine z_aload_n (pc := 71) (i := 0) C 0 dX4_person_71 rfl rfl ?_
            refine z_get (pc := 72) (ci := 4) C (.ref (h 0 0)) bi_X4 rfl 0 0 (by decide) rfl bf_X4_10 rfl rfl dX4_person_72 ?_
            refine z_iload_n (pc := 75) (i := 1) C 1 dX4_person_75 rfl rfl ?_
            refine z_iload_n (pc := 76) (i := 2) C 2 dX4_person_76 rfl rfl ?_
            refine z_iload_n (pc := 77) (i := 3) C 3 dX4_person_77 rfl rfl ?_
            refine z_iload (pc := 78) C 4 dX4_person_78 rfl ?_
            obtain ⟨q12, hq12, hf⟩ := bb_b_some hf
            refine z_callVi (pc := 80) (ci := 0) (q0 := 0) (As := [.int x1, .int x2, .int x3, .int x4]) (rest := []) (ws' := wX4 X.cs h (va_up (va_up s0 1 q11) 0 q12.2)) C (hR.le (by decide)) (c_X0_enter (h 0) hq12) (cut_X4_0 _ _ _ _) bv_X0_enter bm_X4_65 rfl rfl rfl rfl (Nat.le_of_ble_eq_true rfl) dX4_person_80 ?_
            obtain rfl := Option.some.inj hf
            exact z_iret (pc := 83) C hr R dX4_person_83
          · have hf := bb_e hf hc10
            refine z_bipush (pc := 61) C (-3 : Int32) dX4_person_61 (by decide) ?_
            obtain rfl := Option.some.inj hf
            exact z_iret (pc := 63) C hr R dX4_person_63
        · have hf := bb_e hf hc9
          refine z_lv [] rfl ?_
          exact B_X4_person_47 C hR hr h R  hf
theorem c_X4_person {l : Launch} {D : va_G} {cs : Nat → ClassId} (h : Nat → Nat → Nat) {s0 : bb_H} {x1 : Int32} {x2 : Int32} {x3 : Int32} {x4 : Int32} {z : (Int32 × bb_H)} (hf : F_X4_person_0 s0 x1 x2 x3 x4 = some z) : bb_M l yX4_person cX4_person 5 (some .int) 2 D cs [.ref (h 5 0), .int x1, .int x2, .int x3, .int x4] (some (.int z.1)) (wX4 cs h s0) (wX4 cs h z.2) := bb_mg (by decide) rfl (Nat.le_of_ble_eq_true rfl) rfl (fun X hl hD hcs C hR hr R => by
  subst hl
  subst hD
  subst hcs
  exact B_X4_person_0 C hR hr h R hf)
/-! X4_isNobody: reads, level 1 -/
noncomputable def F_X4_isNobody_20 (s0 : bb_H) (y0 : Int32) : Option Int32 := bb_g (bb_z y0) (some y0)
set_option maxHeartbeats 4000000 in
set_option maxRecDepth 100000 in
theorem B_X4_isNobody_20 {X : bb_X} (C : bb_C X RX4 cX4_isNobody 2) (hR : bb_r X 1) (hr : X.meth.sig.returnType = (some .boolean)) (h : Nat → Nat → Nat) {z : Int32} {s0 : bb_H} (R : bb_R X (some (.int z)) (wX4 X.cs h s0)) {y0 : Int32} (hf : F_X4_isNobody_20 s0 y0 = some z) : bb_Z X 2 (wX4 X.cs h s0) 20 [] [.int y0] := by
  obtain ⟨hz1, hf⟩ := bb_g_some hf
  obtain rfl := Option.some.inj hf
  exact z_zret (pc := 20) C hr (bb_nz hz1) R dX4_isNobody_20
noncomputable def F_X4_isNobody_15 (s0 : bb_H) : Option Int32 := F_X4_isNobody_20 s0 ((1 : Int32))
set_option maxHeartbeats 4000000 in
set_option maxRecDepth 100000 in
theorem B_X4_isNobody_15 {X : bb_X} (C : bb_C X RX4 cX4_isNobody 2) (hR : bb_r X 1) (hr : X.meth.sig.returnType = (some .boolean)) (h : Nat → Nat → Nat) {z : Int32} {s0 : bb_H} (R : bb_R X (some (.int z)) (wX4 X.cs h s0))  (hf : F_X4_isNobody_15 s0 = some z) : bb_Z X 2 (wX4 X.cs h s0) 15 [] [] := by
  refine z_iconst (pc := 15) C (1 : Int32) dX4_isNobody_15 (by decide) ?_
  refine z_goto (pc := 16) C 20 dX4_isNobody_16 (by decide) ?_
  exact B_X4_isNobody_20 C hR hr h R  hf
noncomputable def F_X4_isNobody_0 (s0 : bb_H) (x1 : Int32) : Option Int32 := if x1 < 0 then (F_X4_isNobody_15 s0) else (if x1 < (((s0 0)).1 2) then (F_X4_isNobody_20 s0 ((0 : Int32))) else (F_X4_isNobody_15 s0))
set_option maxHeartbeats 4000000 in
set_option maxRecDepth 100000 in
theorem B_X4_isNobody_0 {X : bb_X} (C : bb_C X RX4 cX4_isNobody 2) (hR : bb_r X 1) (hr : X.meth.sig.returnType = (some .boolean)) (h : Nat → Nat → Nat) {z : Int32} {s0 : bb_H} (R : bb_R X (some (.int z)) (wX4 X.cs h s0)) {x1 : Int32} (hf : F_X4_isNobody_0 s0 x1 = some z) : bb_Z X 2 (wX4 X.cs h s0) 0 [(0, .ref (h 5 0)), (1, .int x1)] [] := by
  refine z_iload_n (pc := 0) (i := 1) C 1 dX4_isNobody_0 rfl rfl ?_
  refine z_if_lt (pc := 1) C 15 dX4_isNobody_1 (by decide) (fun hc1 => ?_) (fun hc1 => ?_)
  · have hf := bb_t hf hc1
    refine z_lv [] rfl ?_
    exact B_X4_isNobody_15 C hR hr h R  hf
  · have hf := bb_e hf hc1
    refine z_iload_n (pc := 4) (i := 1) C 1 dX4_isNobody_4 rfl rfl ?_
    refine z_aload_n (pc := 5) (i := 0) C 0 dX4_isNobody_5 rfl rfl ?_
    refine z_get (pc := 6) (ci := 4) C (.ref (h 0 0)) bi_X4 rfl 0 0 (by decide) rfl bf_X4_10 rfl rfl dX4_isNobody_6 ?_
    refine z_get (pc := 9) (ci := 0) C (.int (((s0 0)).1 2)) bi_X0 rfl 2 2 (by decide) rfl bf_X4_61 rfl rfl dX4_isNobody_9 ?_
    refine z_icmp_lt (pc := 12) C 19 dX4_isNobody_12 (by decide) (fun hc2 => ?_) (fun hc2 => ?_)
    · have hf := bb_t hf hc2
      refine z_iconst (pc := 19) C (0 : Int32) dX4_isNobody_19 (by decide) ?_
      refine z_lv [] rfl ?_
      exact B_X4_isNobody_20 C hR hr h R  hf
    · have hf := bb_e hf hc2
      refine z_lv [] rfl ?_
      exact B_X4_isNobody_15 C hR hr h R  hf
theorem c_X4_isNobody {l : Launch} {D : va_G} {cs : Nat → ClassId} (h : Nat → Nat → Nat) {s0 : bb_H} {x1 : Int32} {z : Int32} (hf : F_X4_isNobody_0 s0 x1 = some z) : bb_M l yX4_isNobody cX4_isNobody 2 (some .boolean) 1 D cs [.ref (h 5 0), .int x1] (some (.int z)) (wX4 cs h s0) (wX4 cs h s0) := bb_mg (by decide) rfl (Nat.le_of_ble_eq_true rfl) rfl (fun X hl hD hcs C hR hr R => by
  subst hl
  subst hD
  subst hcs
  exact B_X4_isNobody_0 C hR hr h R hf)
/-! X4_of: reads, level 4 -/
noncomputable def F_X4_of_126 (s0 : bb_H) (y0 : Int32) : Option Int32 := some y0
set_option maxHeartbeats 4000000 in
set_option maxRecDepth 100000 in
theorem B_X4_of_126 {X : bb_X} (C : bb_C X RX4 cX4_of 3) (hR : bb_r X 4) (hr : X.meth.sig.returnType = (some .int)) (h : Nat → Nat → Nat) {z : Int32} {s0 : bb_H} (R : bb_R X (some (.int z)) (wX4 X.cs h s0)) {y0 : Int32} (hf : F_X4_of_126 s0 y0 = some z) : bb_Z X 3 (wX4 X.cs h s0) 126 [] [.int y0] := by
  obtain rfl := Option.some.inj hf
  exact z_iret (pc := 126) C hr R dX4_of_126
noncomputable def F_X4_of_0 (s0 : bb_H) (x1 : Int32) (x2 : Int32) : Option Int32 := (F_X4_isNobody_0 s0 x1).bind (fun q1 => if q1 = 0 then (if x2 = 0 then (bb_g (vp_in x1 6) (some (((s0 0)).2.1 9 x1.toNatClampNeg))) else (if x2 = 1 then (bb_g (vp_in x1 6) (some (((s0 0)).2.1 10 x1.toNatClampNeg))) else (if x2 = 2 then (bb_g (vp_in x1 6) (some (((s0 0)).2.1 11 x1.toNatClampNeg))) else (if x2 = 3 then (bb_g (vp_in x1 6) (some (((s0 0)).2.1 12 x1.toNatClampNeg))) else (if x2 = 4 then (bb_g (vp_in x1 6) (some (((s0 0)).2.1 13 x1.toNatClampNeg))) else (if x2 = 5 then ((F_X0_isFree_0 ((s0 0)) x1).bind (fun q14 => if q14 = 0 then (F_X4_of_126 s0 ((1 : Int32))) else (F_X4_of_126 s0 ((0 : Int32))))) else (if x2 = 6 then ((F_X0_far_0 ((s0 0)) x1).bind (fun q17 => some q17)) else (if x2 = 7 then ((F_X0_loud_0 ((s0 0)) x1).bind (fun q19 => some q19)) else (if x2 = 8 then ((F_X0_feel_0 ((s0 0)) x1).bind (fun q21 => (F_X0_namedBy_0 ((s0 0)) q21).bind (fun q22 => some q22))) else (some ((-1 : Int32)))))))))))) else (some ((-1 : Int32))))
set_option maxHeartbeats 4000000 in
set_option maxRecDepth 100000 in
theorem B_X4_of_0 {X : bb_X} (C : bb_C X RX4 cX4_of 3) (hR : bb_r X 4) (hr : X.meth.sig.returnType = (some .int)) (h : Nat → Nat → Nat) {z : Int32} {s0 : bb_H} (R : bb_R X (some (.int z)) (wX4 X.cs h s0)) {x1 : Int32} {x2 : Int32} (hf : F_X4_of_0 s0 x1 x2 = some z) : bb_Z X 3 (wX4 X.cs h s0) 0 [(0, .ref (h 5 0)), (1, .int x1), (2, .int x2)] [] := by
  refine z_aload_n (pc := 0) (i := 0) C 0 dX4_of_0 rfl rfl ?_
  refine z_iload_n (pc := 1) (i := 1) C 1 dX4_of_1 rfl rfl ?_
  obtain ⟨q1, hq1, hf⟩ := bb_b_some hf
  refine z_callVi (pc := 2) (ci := 4) (q0 := 0) (As := [.int x1]) (rest := []) C (hR.le (by decide)) (c_X4_isNobody h hq1) (bb_cut_self _ _) bv_X4_isNobody bm_X4_69 rfl rfl rfl rfl (Nat.le_of_ble_eq_true rfl) dX4_of_2 ?_
  refine z_if_eq (pc := 5) C 10 dX4_of_5 (by decide) (fun hc2 => ?_) (fun hc2 => ?_)
  · have hf := bb_t hf hc2
    refine z_iload_n (pc := 10) (i := 2) C 2 dX4_of_10 rfl rfl ?_
    by_cases hc3 : x2 = 0
    · have hf := bb_t hf hc3
      refine z_tabIn (pc := 11) C 60 (0 : Int32) dX4_of_11 hc3 (by decide) (by decide) rfl (by decide) ?_
      refine z_aload_n (pc := 60) (i := 0) C 0 dX4_of_60 rfl rfl ?_
      refine z_get (pc := 61) (ci := 4) C (.ref (h 0 0)) bi_X4 rfl 0 0 (by decide) rfl bf_X4_10 rfl rfl dX4_of_61 ?_
      refine z_get (pc := 64) (ci := 0) C (.ref (h 0 10)) bi_X0 rfl 2 9 (by decide) rfl bf_X4_73 rfl rfl dX4_of_64 ?_
      refine z_iload_n (pc := 67) (i := 1) C 1 dX4_of_67 rfl rfl ?_
      obtain ⟨hv4, hf⟩ := bb_g_some hf
      refine z_iald (pc := 68) C 3 0 (x1.toNatClampNeg) rfl rfl hv4 rfl dX4_of_68 ?_
      obtain rfl := Option.some.inj hf
      exact z_iret (pc := 69) C hr R dX4_of_69
    · have hf := bb_e hf hc3
      by_cases hc5 : x2 = 1
      · have hf := bb_t hf hc5
        refine z_tabIn (pc := 11) C 70 (1 : Int32) dX4_of_11 hc5 (by decide) (by decide) rfl (by decide) ?_
        refine z_aload_n (pc := 70) (i := 0) C 0 dX4_of_70 rfl rfl ?_
        refine z_get (pc := 71) (ci := 4) C (.ref (h 0 0)) bi_X4 rfl 0 0 (by decide) rfl bf_X4_10 rfl rfl dX4_of_71 ?_
        refine z_get (pc := 74) (ci := 0) C (.ref (h 0 11)) bi_X0 rfl 2 10 (by decide) rfl bf_X4_77 rfl rfl dX4_of_74 ?_
        refine z_iload_n (pc := 77) (i := 1) C 1 dX4_of_77 rfl rfl ?_
        obtain ⟨hv6, hf⟩ := bb_g_some hf
        refine z_iald (pc := 78) C 4 0 (x1.toNatClampNeg) rfl rfl hv6 rfl dX4_of_78 ?_
        obtain rfl := Option.some.inj hf
        exact z_iret (pc := 79) C hr R dX4_of_79
      · have hf := bb_e hf hc5
        by_cases hc7 : x2 = 2
        · have hf := bb_t hf hc7
          refine z_tabIn (pc := 11) C 80 (2 : Int32) dX4_of_11 hc7 (by decide) (by decide) rfl (by decide) ?_
          refine z_aload_n (pc := 80) (i := 0) C 0 dX4_of_80 rfl rfl ?_
          refine z_get (pc := 81) (ci := 4) C (.ref (h 0 0)) bi_X4 rfl 0 0 (by decide) rfl bf_X4_10 rfl rfl dX4_of_81 ?_
          refine z_get (pc := 84) (ci := 0) C (.ref (h 0 12)) bi_X0 rfl 2 11 (by decide) rfl bf_X4_80 rfl rfl dX4_of_84 ?_
          refine z_iload_n (pc := 87) (i := 1) C 1 dX4_of_87 rfl rfl ?_
          obtain ⟨hv8, hf⟩ := bb_g_some hf
          refine z_iald (pc := 88) C 5 0 (x1.toNatClampNeg) rfl rfl hv8 rfl dX4_of_88 ?_
          obtain rfl := Option.some.inj hf
          exact z_iret (pc := 89) C hr R dX4_of_89
        · have hf := bb_e hf hc7
          by_cases hc9 : x2 = 3
          · have hf := bb_t hf hc9
            refine z_tabIn (pc := 11) C 90 (3 : Int32) dX4_of_11 hc9 (by decide) (by decide) rfl (by decide) ?_
            refine z_aload_n (pc := 90) (i := 0) C 0 dX4_of_90 rfl rfl ?_
            refine z_get (pc := 91) (ci := 4) C (.ref (h 0 0)) bi_X4 rfl 0 0 (by decide) rfl bf_X4_10 rfl rfl dX4_of_91 ?_
            refine z_get (pc := 94) (ci := 0) C (.ref (h 0 13)) bi_X0 rfl 2 12 (by decide) rfl bf_X4_83 rfl rfl dX4_of_94 ?_
            refine z_iload_n (pc := 97) (i := 1) C 1 dX4_of_97 rfl rfl ?_
            obtain ⟨hv10, hf⟩ := bb_g_some hf
            refine z_iald (pc := 98) C 6 0 (x1.toNatClampNeg) rfl rfl hv10 rfl dX4_of_98 ?_
            obtain rfl := Option.some.inj hf
            exact z_iret (pc := 99) C hr R dX4_of_99
          · have hf := bb_e hf hc9
            by_cases hc11 : x2 = 4
            · have hf := bb_t hf hc11
              refine z_tabIn (pc := 11) C 100 (4 : Int32) dX4_of_11 hc11 (by decide) (by decide) rfl (by decide) ?_
              refine z_aload_n (pc := 100) (i := 0) C 0 dX4_of_100 rfl rfl ?_
              refine z_get (pc := 101) (ci := 4) C (.ref (h 0 0)) bi_X4 rfl 0 0 (by decide) rfl bf_X4_10 rfl rfl dX4_of_101 ?_
              refine z_get (pc := 104) (ci := 0) C (.ref (h 0 14)) bi_X0 rfl 2 13 (by decide) rfl bf_X4_86 rfl rfl dX4_of_104 ?_
              refine z_iload_n (pc := 107) (i := 1) C 1 dX4_of_107 rfl rfl ?_
              obtain ⟨hv12, hf⟩ := bb_g_some hf
              refine z_iald (pc := 108) C 7 0 (x1.toNatClampNeg) rfl rfl hv12 rfl dX4_of_108 ?_
              obtain rfl := Option.some.inj hf
              exact z_iret (pc := 109) C hr R dX4_of_109
            · have hf := bb_e hf hc11
              by_cases hc13 : x2 = 5
              · have hf := bb_t hf hc13
                refine z_tabIn (pc := 11) C 110 (5 : Int32) dX4_of_11 hc13 (by decide) (by decide) rfl (by decide) ?_
                refine z_aload_n (pc := 110) (i := 0) C 0 dX4_of_110 rfl rfl ?_
                refine z_get (pc := 111) (ci := 4) C (.ref (h 0 0)) bi_X4 rfl 0 0 (by decide) rfl bf_X4_10 rfl rfl dX4_of_111 ?_
                refine z_iload_n (pc := 114) (i := 1) C 1 dX4_of_114 rfl rfl ?_
                obtain ⟨q14, hq14, hf⟩ := bb_b_some hf
                refine z_callVi (pc := 115) (ci := 0) (q0 := 0) (As := [.int x1]) (rest := []) C (hR.le (by decide)) (c_X0_isFree (h 0) hq14) (cutp_X4_0 _ _ _) bv_X0_isFree bm_X4_89 rfl rfl rfl rfl (Nat.le_of_ble_eq_true rfl) dX4_of_115 ?_
                refine z_if_eq (pc := 118) C 125 dX4_of_118 (by decide) (fun hc15 => ?_) (fun hc15 => ?_)
                · have hf := bb_t hf hc15
                  refine z_iconst (pc := 125) C (1 : Int32) dX4_of_125 (by decide) ?_
                  refine z_lv [] rfl ?_
                  exact B_X4_of_126 C hR hr h R  hf
                · have hf := bb_e hf hc15
                  refine z_iconst (pc := 121) C (0 : Int32) dX4_of_121 (by decide) ?_
                  refine z_goto (pc := 122) C 126 dX4_of_122 (by decide) ?_
                  refine z_lv [] rfl ?_
                  exact B_X4_of_126 C hR hr h R  hf
              · have hf := bb_e hf hc13
                by_cases hc16 : x2 = 6
                · have hf := bb_t hf hc16
                  refine z_tabIn (pc := 11) C 127 (6 : Int32) dX4_of_11 hc16 (by decide) (by decide) rfl (by decide) ?_
                  refine z_aload_n (pc := 127) (i := 0) C 0 dX4_of_127 rfl rfl ?_
                  refine z_get (pc := 128) (ci := 4) C (.ref (h 0 0)) bi_X4 rfl 0 0 (by decide) rfl bf_X4_10 rfl rfl dX4_of_128 ?_
                  refine z_iload_n (pc := 131) (i := 1) C 1 dX4_of_131 rfl rfl ?_
                  obtain ⟨q17, hq17, hf⟩ := bb_b_some hf
                  refine z_callVi (pc := 132) (ci := 0) (q0 := 0) (As := [.int x1]) (rest := []) C (hR.le (by decide)) (c_X0_far (h 0) hq17) (cutp_X4_0 _ _ _) bv_X0_far bm_X4_92 rfl rfl rfl rfl (Nat.le_of_ble_eq_true rfl) dX4_of_132 ?_
                  obtain rfl := Option.some.inj hf
                  exact z_iret (pc := 135) C hr R dX4_of_135
                · have hf := bb_e hf hc16
                  by_cases hc18 : x2 = 7
                  · have hf := bb_t hf hc18
                    refine z_tabIn (pc := 11) C 136 (7 : Int32) dX4_of_11 hc18 (by decide) (by decide) rfl (by decide) ?_
                    refine z_aload_n (pc := 136) (i := 0) C 0 dX4_of_136 rfl rfl ?_
                    refine z_get (pc := 137) (ci := 4) C (.ref (h 0 0)) bi_X4 rfl 0 0 (by decide) rfl bf_X4_10 rfl rfl dX4_of_137 ?_
                    refine z_iload_n (pc := 140) (i := 1) C 1 dX4_of_140 rfl rfl ?_
                    obtain ⟨q19, hq19, hf⟩ := bb_b_some hf
                    refine z_callVi (pc := 141) (ci := 0) (q0 := 0) (As := [.int x1]) (rest := []) C (hR.le (by decide)) (c_X0_loud (h 0) hq19) (cutp_X4_0 _ _ _) bv_X0_loud bm_X4_96 rfl rfl rfl rfl (Nat.le_of_ble_eq_true rfl) dX4_of_141 ?_
                    obtain rfl := Option.some.inj hf
                    exact z_iret (pc := 144) C hr R dX4_of_144
                  · have hf := bb_e hf hc18
                    by_cases hc20 : x2 = 8
                    · have hf := bb_t hf hc20
                      refine z_tabIn (pc := 11) C 145 (8 : Int32) dX4_of_11 hc20 (by decide) (by decide) rfl (by decide) ?_
                      refine z_aload_n (pc := 145) (i := 0) C 0 dX4_of_145 rfl rfl ?_
                      refine z_get (pc := 146) (ci := 4) C (.ref (h 0 0)) bi_X4 rfl 0 0 (by decide) rfl bf_X4_10 rfl rfl dX4_of_146 ?_
                      refine z_aload_n (pc := 149) (i := 0) C 0 dX4_of_149 rfl rfl ?_
                      refine z_get (pc := 150) (ci := 4) C (.ref (h 0 0)) bi_X4 rfl 0 0 (by decide) rfl bf_X4_10 rfl rfl dX4_of_150 ?_
                      refine z_iload_n (pc := 153) (i := 1) C 1 dX4_of_153 rfl rfl ?_
                      obtain ⟨q21, hq21, hf⟩ := bb_b_some hf
                      refine z_callVi (pc := 154) (ci := 0) (q0 := 0) (As := [.int x1]) (rest := [.ref (h 0 0)]) C (hR.le (by decide)) (c_X0_feel (h 0) hq21) (cutp_X4_0 _ _ _) bv_X0_feel bm_X4_99 rfl rfl rfl rfl (Nat.le_of_ble_eq_true rfl) dX4_of_154 ?_
                      obtain ⟨q22, hq22, hf⟩ := bb_b_some hf
                      refine z_callVi (pc := 157) (ci := 0) (q0 := 0) (As := [.int q21]) (rest := []) C (hR.le (by decide)) (c_X0_namedBy (h 0) hq22) (cutp_X4_0 _ _ _) bv_X0_namedBy bm_X4_102 rfl rfl rfl rfl (Nat.le_of_ble_eq_true rfl) dX4_of_157 ?_
                      obtain rfl := Option.some.inj hf
                      exact z_iret (pc := 160) C hr R dX4_of_160
                    · have hf := bb_e hf hc20
                      refine z_tabOut (pc := 11) C 161 dX4_of_11 (by have a0 := lv_neT hc3 (show (0 : Int32).toInt = 0 by decide); have a1 := lv_neT hc5 (show (1 : Int32).toInt = 1 by decide); have a2 := lv_neT hc7 (show (2 : Int32).toInt = 2 by decide); have a3 := lv_neT hc9 (show (3 : Int32).toInt = 3 by decide); have a4 := lv_neT hc11 (show (4 : Int32).toInt = 4 by decide); have a5 := lv_neT hc13 (show (5 : Int32).toInt = 5 by decide); have a6 := lv_neT hc16 (show (6 : Int32).toInt = 6 by decide); have a7 := lv_neT hc18 (show (7 : Int32).toInt = 7 by decide); have a8 := lv_neT hc20 (show (8 : Int32).toInt = 8 by decide); omega) (by decide) ?_
                      refine z_iconst (pc := 161) C (-1 : Int32) dX4_of_161 (by decide) ?_
                      obtain rfl := Option.some.inj hf
                      exact z_iret (pc := 162) C hr R dX4_of_162
  · have hf := bb_e hf hc2
    refine z_iconst (pc := 8) C (-1 : Int32) dX4_of_8 (by decide) ?_
    obtain rfl := Option.some.inj hf
    exact z_iret (pc := 9) C hr R dX4_of_9
theorem c_X4_of {l : Launch} {D : va_G} {cs : Nat → ClassId} (h : Nat → Nat → Nat) {s0 : bb_H} {x1 : Int32} {x2 : Int32} {z : Int32} (hf : F_X4_of_0 s0 x1 x2 = some z) : bb_M l yX4_of cX4_of 3 (some .int) 4 D cs [.ref (h 5 0), .int x1, .int x2] (some (.int z)) (wX4 cs h s0) (wX4 cs h s0) := bb_mg (by decide) rfl (Nat.le_of_ble_eq_true rfl) rfl (fun X hl hD hcs C hR hr R => by
  subst hl
  subst hD
  subst hcs
  exact B_X4_of_0 C hR hr h R hf)
/-! X4_rule: writes, level 2 -/
noncomputable def F_X4_rule_87 (s0 : bb_H) : Option (Int32 × bb_H) := some ((-1 : Int32), s0)
set_option maxHeartbeats 4000000 in
set_option maxRecDepth 100000 in
theorem B_X4_rule_87 {X : bb_X} (C : bb_C X RX4 cX4_rule 5) (hR : bb_r X 2) (hr : X.meth.sig.returnType = (some .int)) (h : Nat → Nat → Nat) {z : (Int32 × bb_H)} (R : bb_R X (some (.int z.1)) (wX4 X.cs h z.2)) {s0 : bb_H} (hf : F_X4_rule_87 s0 = some z) : bb_Z X 5 (wX4 X.cs h s0) 87 [] [] := by
  refine z_iconst (pc := 87) C (-1 : Int32) dX4_rule_87 (by decide) ?_
  obtain rfl := Option.some.inj hf
  exact z_iret (pc := 88) C hr R dX4_rule_88
noncomputable def F_X4_rule_48 (s0 : bb_H) (x1 : Int32) (x2 : Int32) (x3 : Int32) : Option (Int32 × bb_H) := if x2 = ((1 : Int32)) then ((F_X4_outside_0 x3 ((0 : Int32)) ((63 : Int32))).bind (fun q2 => if q2 = 0 then (bb_g (vp_in x1 6) (bb_g (vp_in x1 6) (some (((s0 0)).2.1 13 x1.toNatClampNeg, va_up s0 0 (bb_sA ((s0 0)) 13 (upd (((s0 0)).2.1 13) x1.toNatClampNeg x3)))))) else (F_X4_rule_87 s0))) else (F_X4_rule_87 s0)
set_option maxHeartbeats 4000000 in
set_option maxRecDepth 100000 in
theorem B_X4_rule_48 {X : bb_X} (C : bb_C X RX4 cX4_rule 5) (hR : bb_r X 2) (hr : X.meth.sig.returnType = (some .int)) (h : Nat → Nat → Nat) {z : (Int32 × bb_H)} (R : bb_R X (some (.int z.1)) (wX4 X.cs h z.2)) {s0 : bb_H} {x1 : Int32} {x2 : Int32} {x3 : Int32} (hf : F_X4_rule_48 s0 x1 x2 x3 = some z) : bb_Z X 5 (wX4 X.cs h s0) 48 [(0, .ref (h 5 0)), (1, .int x1), (2, .int x2), (3, .int x3)] [] := by
  refine z_iload_n (pc := 48) (i := 2) C 2 dX4_rule_48 rfl rfl ?_
  refine z_iconst (pc := 49) C (1 : Int32) dX4_rule_49 (by decide) ?_
  refine z_icmp_ne (pc := 50) C 87 dX4_rule_50 (by decide) (fun hc1 => ?_) (fun hc1 => ?_)
  · have hf := bb_e hf hc1
    refine z_lv [] rfl ?_
    exact B_X4_rule_87 C hR hr h R  hf
  · have hf := bb_t hf hc1
    refine z_iload_n (pc := 53) (i := 3) C 3 dX4_rule_53 rfl rfl ?_
    refine z_iconst (pc := 54) C (0 : Int32) dX4_rule_54 (by decide) ?_
    refine z_bipush (pc := 55) C (63 : Int32) dX4_rule_55 (by decide) ?_
    obtain ⟨q2, hq2, hf⟩ := bb_b_some hf
    refine z_callSi (pc := 57) (As := [.int x3, .int ((0 : Int32)), .int ((63 : Int32))]) (rest := []) C (hR.le (by decide)) (c_X4_outside hq2) (bb_cut_none _) bv_X4_outside bm_X4_46 rfl rfl (Nat.le_of_ble_eq_true rfl) dX4_rule_57 ?_
    refine z_if_ne (pc := 60) C 87 dX4_rule_60 (by decide) (fun hc3 => ?_) (fun hc3 => ?_)
    · have hf := bb_e hf hc3
      refine z_lv [] rfl ?_
      exact B_X4_rule_87 C hR hr h R  hf
    · have hf := bb_t hf hc3
      refine z_aload_n (pc := 63) (i := 0) C 0 dX4_rule_63 rfl rfl ?_
      refine z_get (pc := 64) (ci := 4) C (.ref (h 0 0)) bi_X4 rfl 0 0 (by decide) rfl bf_X4_10 rfl rfl dX4_rule_64 ?_
      refine z_get (pc := 67) (ci := 0) C (.ref (h 0 14)) bi_X0 rfl 2 13 (by decide) rfl bf_X4_86 rfl rfl dX4_rule_67 ?_
      refine z_iload_n (pc := 70) (i := 1) C 1 dX4_rule_70 rfl rfl ?_
      obtain ⟨hv4, hf⟩ := bb_g_some hf
      refine z_iald (pc := 71) C 7 0 (x1.toNatClampNeg) rfl rfl hv4 rfl dX4_rule_71 ?_
      refine z_istore (pc := 72) (lv' := [(4, .int (((s0 0)).2.1 13 x1.toNatClampNeg)), (0, .ref (h 5 0)), (1, .int x1), (2, .int x2), (3, .int x3)]) C dX4_rule_72 (by decide) rfl ?_
      refine z_aload_n (pc := 74) (i := 0) C 1 dX4_rule_74 rfl rfl ?_
      refine z_get (pc := 75) (ci := 4) C (.ref (h 0 0)) bi_X4 rfl 0 0 (by decide) rfl bf_X4_10 rfl rfl dX4_rule_75 ?_
      refine z_get (pc := 78) (ci := 0) C (.ref (h 0 14)) bi_X0 rfl 2 13 (by decide) rfl bf_X4_86 rfl rfl dX4_rule_78 ?_
      refine z_iload_n (pc := 81) (i := 1) C 2 dX4_rule_81 rfl rfl ?_
      refine z_iload_n (pc := 82) (i := 3) C 4 dX4_rule_82 rfl rfl ?_
      obtain ⟨hv5, hf⟩ := bb_g_some hf
      refine z_iast (pc := 83) (ws' := wX4 X.cs h (va_up s0 0 (bb_sA ((s0 0)) 13 (upd (((s0 0)).2.1 13) x1.toNatClampNeg x3)))) C 7 0 (x1.toNatClampNeg) rfl rfl hv5 rfl rfl dX4_rule_83 ?_
      refine z_iload (pc := 84) C 0 dX4_rule_84 rfl ?_
      obtain rfl := Option.some.inj hf
      exact z_iret (pc := 86) C hr R dX4_rule_86
noncomputable def F_X4_rule_0 (s0 : bb_H) (x1 : Int32) (x2 : Int32) (x3 : Int32) : Option (Int32 × bb_H) := (F_X4_isNobody_0 s0 x1).bind (fun q1 => if q1 = 0 then (if x2 = 0 then ((F_X4_outside_0 x3 ((0 : Int32)) ((9 : Int32))).bind (fun q4 => if q4 = 0 then (bb_g (vp_in x1 6) (bb_g (vp_in x1 6) (some (((s0 0)).2.1 11 x1.toNatClampNeg, va_up s0 0 (bb_sA ((s0 0)) 11 (upd (((s0 0)).2.1 11) x1.toNatClampNeg x3)))))) else (F_X4_rule_48 s0 x1 x2 x3))) else (F_X4_rule_48 s0 x1 x2 x3)) else (some ((-1 : Int32), s0)))
set_option maxHeartbeats 4000000 in
set_option maxRecDepth 100000 in
theorem B_X4_rule_0 {X : bb_X} (C : bb_C X RX4 cX4_rule 5) (hR : bb_r X 2) (hr : X.meth.sig.returnType = (some .int)) (h : Nat → Nat → Nat) {z : (Int32 × bb_H)} (R : bb_R X (some (.int z.1)) (wX4 X.cs h z.2)) {s0 : bb_H} {x1 : Int32} {x2 : Int32} {x3 : Int32} (hf : F_X4_rule_0 s0 x1 x2 x3 = some z) : bb_Z X 5 (wX4 X.cs h s0) 0 [(0, .ref (h 5 0)), (1, .int x1), (2, .int x2), (3, .int x3)] [] := by
  refine z_aload_n (pc := 0) (i := 0) C 0 dX4_rule_0 rfl rfl ?_
  refine z_iload_n (pc := 1) (i := 1) C 1 dX4_rule_1 rfl rfl ?_
  obtain ⟨q1, hq1, hf⟩ := bb_b_some hf
  refine z_callVi (pc := 2) (ci := 4) (q0 := 0) (As := [.int x1]) (rest := []) C (hR.le (by decide)) (c_X4_isNobody h hq1) (bb_cut_self _ _) bv_X4_isNobody bm_X4_69 rfl rfl rfl rfl (Nat.le_of_ble_eq_true rfl) dX4_rule_2 ?_
  refine z_if_eq (pc := 5) C 10 dX4_rule_5 (by decide) (fun hc2 => ?_) (fun hc2 => ?_)
  · have hf := bb_t hf hc2
    refine z_iload_n (pc := 10) (i := 2) C 2 dX4_rule_10 rfl rfl ?_
    refine z_if_ne (pc := 11) C 48 dX4_rule_11 (by decide) (fun hc3 => ?_) (fun hc3 => ?_)
    · have hf := bb_e hf hc3
      exact B_X4_rule_48 C hR hr h R  hf
    · have hf := bb_t hf hc3
      refine z_iload_n (pc := 14) (i := 3) C 3 dX4_rule_14 rfl rfl ?_
      refine z_iconst (pc := 15) C (0 : Int32) dX4_rule_15 (by decide) ?_
      refine z_bipush (pc := 16) C (9 : Int32) dX4_rule_16 (by decide) ?_
      obtain ⟨q4, hq4, hf⟩ := bb_b_some hf
      refine z_callSi (pc := 18) (As := [.int x3, .int ((0 : Int32)), .int ((9 : Int32))]) (rest := []) C (hR.le (by decide)) (c_X4_outside hq4) (bb_cut_none _) bv_X4_outside bm_X4_46 rfl rfl (Nat.le_of_ble_eq_true rfl) dX4_rule_18 ?_
      refine z_if_ne (pc := 21) C 48 dX4_rule_21 (by decide) (fun hc5 => ?_) (fun hc5 => ?_)
      · have hf := bb_e hf hc5
        exact B_X4_rule_48 C hR hr h R  hf
      · have hf := bb_t hf hc5
        refine z_aload_n (pc := 24) (i := 0) C 0 dX4_rule_24 rfl rfl ?_
        refine z_get (pc := 25) (ci := 4) C (.ref (h 0 0)) bi_X4 rfl 0 0 (by decide) rfl bf_X4_10 rfl rfl dX4_rule_25 ?_
        refine z_get (pc := 28) (ci := 0) C (.ref (h 0 12)) bi_X0 rfl 2 11 (by decide) rfl bf_X4_80 rfl rfl dX4_rule_28 ?_
        refine z_iload_n (pc := 31) (i := 1) C 1 dX4_rule_31 rfl rfl ?_
        obtain ⟨hv6, hf⟩ := bb_g_some hf
        refine z_iald (pc := 32) C 5 0 (x1.toNatClampNeg) rfl rfl hv6 rfl dX4_rule_32 ?_
        refine z_istore (pc := 33) (lv' := [(4, .int (((s0 0)).2.1 11 x1.toNatClampNeg)), (0, .ref (h 5 0)), (1, .int x1), (2, .int x2), (3, .int x3)]) C dX4_rule_33 (by decide) rfl ?_
        refine z_aload_n (pc := 35) (i := 0) C 1 dX4_rule_35 rfl rfl ?_
        refine z_get (pc := 36) (ci := 4) C (.ref (h 0 0)) bi_X4 rfl 0 0 (by decide) rfl bf_X4_10 rfl rfl dX4_rule_36 ?_
        refine z_get (pc := 39) (ci := 0) C (.ref (h 0 12)) bi_X0 rfl 2 11 (by decide) rfl bf_X4_80 rfl rfl dX4_rule_39 ?_
        refine z_iload_n (pc := 42) (i := 1) C 2 dX4_rule_42 rfl rfl ?_
        refine z_iload_n (pc := 43) (i := 3) C 4 dX4_rule_43 rfl rfl ?_
        obtain ⟨hv7, hf⟩ := bb_g_some hf
        refine z_iast (pc := 44) (ws' := wX4 X.cs h (va_up s0 0 (bb_sA ((s0 0)) 11 (upd (((s0 0)).2.1 11) x1.toNatClampNeg x3)))) C 5 0 (x1.toNatClampNeg) rfl rfl hv7 rfl rfl dX4_rule_44 ?_
        refine z_iload (pc := 45) C 0 dX4_rule_45 rfl ?_
        obtain rfl := Option.some.inj hf
        exact z_iret (pc := 47) C hr R dX4_rule_47
  · have hf := bb_e hf hc2
    refine z_iconst (pc := 8) C (-1 : Int32) dX4_rule_8 (by decide) ?_
    obtain rfl := Option.some.inj hf
    exact z_iret (pc := 9) C hr R dX4_rule_9
theorem c_X4_rule {l : Launch} {D : va_G} {cs : Nat → ClassId} (h : Nat → Nat → Nat) {s0 : bb_H} {x1 : Int32} {x2 : Int32} {x3 : Int32} {z : (Int32 × bb_H)} (hf : F_X4_rule_0 s0 x1 x2 x3 = some z) : bb_M l yX4_rule cX4_rule 5 (some .int) 2 D cs [.ref (h 5 0), .int x1, .int x2, .int x3] (some (.int z.1)) (wX4 cs h s0) (wX4 cs h z.2) := bb_mg (by decide) rfl (Nat.le_of_ble_eq_true rfl) rfl (fun X hl hD hcs C hR hr R => by
  subst hl
  subst hD
  subst hcs
  exact B_X4_rule_0 C hR hr h R hf)
/-! X4_type: writes, level 2 -/
noncomputable def F_X4_type_0 (s0 : bb_H) (x1 : Int32) : Option (Int32 × bb_H) := (F_X4_outside_0 x1 ((32 : Int32)) ((126 : Int32))).bind (fun q1 => if q1 = 0 then (if (((s0 6)).1 1) < ((90 : Int32)) then ((F_X3_add_0 ((s0 6)) x1).bind (fun q4 => some (q4.1, va_up s0 6 q4.2))) else (some ((-3 : Int32), s0))) else (some ((-1 : Int32), s0)))
set_option maxHeartbeats 4000000 in
set_option maxRecDepth 100000 in
theorem B_X4_type_0 {X : bb_X} (C : bb_C X RX4 cX4_type 2) (hR : bb_r X 2) (hr : X.meth.sig.returnType = (some .int)) (h : Nat → Nat → Nat) {z : (Int32 × bb_H)} (R : bb_R X (some (.int z.1)) (wX4 X.cs h z.2)) {s0 : bb_H} {x1 : Int32} (hf : F_X4_type_0 s0 x1 = some z) : bb_Z X 2 (wX4 X.cs h s0) 0 [(0, .ref (h 5 0)), (1, .int x1)] [] := by
  refine z_iload_n (pc := 0) (i := 1) C 1 dX4_type_0 rfl rfl ?_
  refine z_bipush (pc := 1) C (32 : Int32) dX4_type_1 (by decide) ?_
  refine z_bipush (pc := 3) C (126 : Int32) dX4_type_3 (by decide) ?_
  obtain ⟨q1, hq1, hf⟩ := bb_b_some hf
  refine z_callSi (pc := 5) (As := [.int x1, .int ((32 : Int32)), .int ((126 : Int32))]) (rest := []) C (hR.le (by decide)) (c_X4_outside hq1) (bb_cut_none _) bv_X4_outside bm_X4_46 rfl rfl (Nat.le_of_ble_eq_true rfl) dX4_type_5 ?_
  refine z_if_eq (pc := 8) C 13 dX4_type_8 (by decide) (fun hc2 => ?_) (fun hc2 => ?_)
  · have hf := bb_t hf hc2
    refine z_aload_n (pc := 13) (i := 0) C 0 dX4_type_13 rfl rfl ?_
    refine z_get (pc := 14) (ci := 4) C (.ref (h 6 0)) bi_X4 rfl 0 6 (by decide) rfl bf_X4_35 rfl rfl dX4_type_14 ?_
    refine z_get (pc := 17) (ci := 3) C (.int (((s0 6)).1 1)) bi_X3 rfl 40 1 (by decide) rfl bf_X4_105 rfl rfl dX4_type_17 ?_
    refine z_bipush (pc := 20) C (90 : Int32) dX4_type_20 (by decide) ?_
    refine z_icmp_lt (pc := 22) C 28 dX4_type_22 (by decide) (fun hc3 => ?_) (fun hc3 => ?_)
    · have hf := bb_t hf hc3
      refine z_aload_n (pc := 28) (i := 0) C 0 dX4_type_28 rfl rfl ?_
      refine z_get (pc := 29) (ci := 4) C (.ref (h 6 0)) bi_X4 rfl 0 6 (by decide) rfl bf_X4_35 rfl rfl dX4_type_29 ?_
      refine z_iload_n (pc := 32) (i := 1) C 1 dX4_type_32 rfl rfl ?_
      obtain ⟨q4, hq4, hf⟩ := bb_b_some hf
      refine z_callVi (pc := 33) (ci := 3) (q0 := 0) (As := [.int x1]) (rest := []) (ws' := wX4 X.cs h (va_up s0 6 q4.2)) C (hR.le (by decide)) (c_X3_add (h 6) hq4) (cut_X4_6 _ _ _ _) bv_X3_add bm_X4_108 rfl rfl rfl rfl (Nat.le_of_ble_eq_true rfl) dX4_type_33 ?_
      obtain rfl := Option.some.inj hf
      exact z_iret (pc := 36) C hr R dX4_type_36
    · have hf := bb_e hf hc3
      refine z_bipush (pc := 25) C (-3 : Int32) dX4_type_25 (by decide) ?_
      obtain rfl := Option.some.inj hf
      exact z_iret (pc := 27) C hr R dX4_type_27
  · have hf := bb_e hf hc2
    refine z_iconst (pc := 11) C (-1 : Int32) dX4_type_11 (by decide) ?_
    obtain rfl := Option.some.inj hf
    exact z_iret (pc := 12) C hr R dX4_type_12
theorem c_X4_type {l : Launch} {D : va_G} {cs : Nat → ClassId} (h : Nat → Nat → Nat) {s0 : bb_H} {x1 : Int32} {z : (Int32 × bb_H)} (hf : F_X4_type_0 s0 x1 = some z) : bb_M l yX4_type cX4_type 2 (some .int) 2 D cs [.ref (h 5 0), .int x1] (some (.int z.1)) (wX4 cs h s0) (wX4 cs h z.2) := bb_mg (by decide) rfl (Nat.le_of_ble_eq_true rfl) rfl (fun X hl hD hcs C hR hr R => by
  subst hl
  subst hD
  subst hcs
  exact B_X4_type_0 C hR hr h R hf)
/-! X4_count: reads, level 5 -/
noncomputable def F_X4_count_0 (s0 : bb_H) (x1 : Int32) : Option Int32 := if x1 = 0 then (some (((s0 0)).1 0)) else (if x1 = 1 then (some (((s0 0)).1 1)) else (if x1 = 2 then (some (((s0 0)).1 2)) else (if x1 = 3 then (some (((s0 0)).1 3)) else (if x1 = 4 then (some (((s0 0)).1 5)) else (if x1 = 5 then (some (((s0 0)).1 4)) else (if x1 = 6 then (some (((s0 0)).1 6)) else (if x1 = 7 then (some (((s0 0)).1 7)) else (if x1 = 8 then ((F_X0_followed_0 ((s0 0))).bind (fun q10 => some q10)) else (if x1 = 9 then (some (((s0 1)).1 2)) else (some ((-1 : Int32))))))))))))
set_option maxHeartbeats 4000000 in
set_option maxRecDepth 100000 in
theorem B_X4_count_0 {X : bb_X} (C : bb_C X RX4 cX4_count 2) (hR : bb_r X 5) (hr : X.meth.sig.returnType = (some .int)) (h : Nat → Nat → Nat) {z : Int32} {s0 : bb_H} (R : bb_R X (some (.int z)) (wX4 X.cs h s0)) {x1 : Int32} (hf : F_X4_count_0 s0 x1 = some z) : bb_Z X 2 (wX4 X.cs h s0) 0 [(0, .ref (h 5 0)), (1, .int x1)] [] := by
  refine z_iload_n (pc := 0) (i := 1) C 1 dX4_count_0 rfl rfl ?_
  by_cases hc1 : x1 = 0
  · have hf := bb_t hf hc1
    refine z_tabIn (pc := 1) C 56 (0 : Int32) dX4_count_1 hc1 (by decide) (by decide) rfl (by decide) ?_
    refine z_aload_n (pc := 56) (i := 0) C 0 dX4_count_56 rfl rfl ?_
    refine z_get (pc := 57) (ci := 4) C (.ref (h 0 0)) bi_X4 rfl 0 0 (by decide) rfl bf_X4_10 rfl rfl dX4_count_57 ?_
    refine z_get (pc := 60) (ci := 0) C (.int (((s0 0)).1 0)) bi_X0 rfl 2 0 (by decide) rfl bf_X4_122 rfl rfl dX4_count_60 ?_
    obtain rfl := Option.some.inj hf
    exact z_iret (pc := 63) C hr R dX4_count_63
  · have hf := bb_e hf hc1
    by_cases hc2 : x1 = 1
    · have hf := bb_t hf hc2
      refine z_tabIn (pc := 1) C 64 (1 : Int32) dX4_count_1 hc2 (by decide) (by decide) rfl (by decide) ?_
      refine z_aload_n (pc := 64) (i := 0) C 0 dX4_count_64 rfl rfl ?_
      refine z_get (pc := 65) (ci := 4) C (.ref (h 0 0)) bi_X4 rfl 0 0 (by decide) rfl bf_X4_10 rfl rfl dX4_count_65 ?_
      refine z_get (pc := 68) (ci := 0) C (.int (((s0 0)).1 1)) bi_X0 rfl 2 1 (by decide) rfl bf_X4_125 rfl rfl dX4_count_68 ?_
      obtain rfl := Option.some.inj hf
      exact z_iret (pc := 71) C hr R dX4_count_71
    · have hf := bb_e hf hc2
      by_cases hc3 : x1 = 2
      · have hf := bb_t hf hc3
        refine z_tabIn (pc := 1) C 72 (2 : Int32) dX4_count_1 hc3 (by decide) (by decide) rfl (by decide) ?_
        refine z_aload_n (pc := 72) (i := 0) C 0 dX4_count_72 rfl rfl ?_
        refine z_get (pc := 73) (ci := 4) C (.ref (h 0 0)) bi_X4 rfl 0 0 (by decide) rfl bf_X4_10 rfl rfl dX4_count_73 ?_
        refine z_get (pc := 76) (ci := 0) C (.int (((s0 0)).1 2)) bi_X0 rfl 2 2 (by decide) rfl bf_X4_61 rfl rfl dX4_count_76 ?_
        obtain rfl := Option.some.inj hf
        exact z_iret (pc := 79) C hr R dX4_count_79
      · have hf := bb_e hf hc3
        by_cases hc4 : x1 = 3
        · have hf := bb_t hf hc4
          refine z_tabIn (pc := 1) C 80 (3 : Int32) dX4_count_1 hc4 (by decide) (by decide) rfl (by decide) ?_
          refine z_aload_n (pc := 80) (i := 0) C 0 dX4_count_80 rfl rfl ?_
          refine z_get (pc := 81) (ci := 4) C (.ref (h 0 0)) bi_X4 rfl 0 0 (by decide) rfl bf_X4_10 rfl rfl dX4_count_81 ?_
          refine z_get (pc := 84) (ci := 0) C (.int (((s0 0)).1 3)) bi_X0 rfl 2 3 (by decide) rfl bf_X4_128 rfl rfl dX4_count_84 ?_
          obtain rfl := Option.some.inj hf
          exact z_iret (pc := 87) C hr R dX4_count_87
        · have hf := bb_e hf hc4
          by_cases hc5 : x1 = 4
          · have hf := bb_t hf hc5
            refine z_tabIn (pc := 1) C 88 (4 : Int32) dX4_count_1 hc5 (by decide) (by decide) rfl (by decide) ?_
            refine z_aload_n (pc := 88) (i := 0) C 0 dX4_count_88 rfl rfl ?_
            refine z_get (pc := 89) (ci := 4) C (.ref (h 0 0)) bi_X4 rfl 0 0 (by decide) rfl bf_X4_10 rfl rfl dX4_count_89 ?_
            refine z_get (pc := 92) (ci := 0) C (.int (((s0 0)).1 5)) bi_X0 rfl 2 5 (by decide) rfl bf_X4_131 rfl rfl dX4_count_92 ?_
            obtain rfl := Option.some.inj hf
            exact z_iret (pc := 95) C hr R dX4_count_95
          · have hf := bb_e hf hc5
            by_cases hc6 : x1 = 5
            · have hf := bb_t hf hc6
              refine z_tabIn (pc := 1) C 96 (5 : Int32) dX4_count_1 hc6 (by decide) (by decide) rfl (by decide) ?_
              refine z_aload_n (pc := 96) (i := 0) C 0 dX4_count_96 rfl rfl ?_
              refine z_get (pc := 97) (ci := 4) C (.ref (h 0 0)) bi_X4 rfl 0 0 (by decide) rfl bf_X4_10 rfl rfl dX4_count_97 ?_
              refine z_get (pc := 100) (ci := 0) C (.int (((s0 0)).1 4)) bi_X0 rfl 2 4 (by decide) rfl bf_X4_134 rfl rfl dX4_count_100 ?_
              obtain rfl := Option.some.inj hf
              exact z_iret (pc := 103) C hr R dX4_count_103
            · have hf := bb_e hf hc6
              by_cases hc7 : x1 = 6
              · have hf := bb_t hf hc7
                refine z_tabIn (pc := 1) C 104 (6 : Int32) dX4_count_1 hc7 (by decide) (by decide) rfl (by decide) ?_
                refine z_aload_n (pc := 104) (i := 0) C 0 dX4_count_104 rfl rfl ?_
                refine z_get (pc := 105) (ci := 4) C (.ref (h 0 0)) bi_X4 rfl 0 0 (by decide) rfl bf_X4_10 rfl rfl dX4_count_105 ?_
                refine z_get (pc := 108) (ci := 0) C (.int (((s0 0)).1 6)) bi_X0 rfl 2 6 (by decide) rfl bf_X4_137 rfl rfl dX4_count_108 ?_
                obtain rfl := Option.some.inj hf
                exact z_iret (pc := 111) C hr R dX4_count_111
              · have hf := bb_e hf hc7
                by_cases hc8 : x1 = 7
                · have hf := bb_t hf hc8
                  refine z_tabIn (pc := 1) C 112 (7 : Int32) dX4_count_1 hc8 (by decide) (by decide) rfl (by decide) ?_
                  refine z_aload_n (pc := 112) (i := 0) C 0 dX4_count_112 rfl rfl ?_
                  refine z_get (pc := 113) (ci := 4) C (.ref (h 0 0)) bi_X4 rfl 0 0 (by decide) rfl bf_X4_10 rfl rfl dX4_count_113 ?_
                  refine z_get (pc := 116) (ci := 0) C (.int (((s0 0)).1 7)) bi_X0 rfl 2 7 (by decide) rfl bf_X4_140 rfl rfl dX4_count_116 ?_
                  obtain rfl := Option.some.inj hf
                  exact z_iret (pc := 119) C hr R dX4_count_119
                · have hf := bb_e hf hc8
                  by_cases hc9 : x1 = 8
                  · have hf := bb_t hf hc9
                    refine z_tabIn (pc := 1) C 120 (8 : Int32) dX4_count_1 hc9 (by decide) (by decide) rfl (by decide) ?_
                    refine z_aload_n (pc := 120) (i := 0) C 0 dX4_count_120 rfl rfl ?_
                    refine z_get (pc := 121) (ci := 4) C (.ref (h 0 0)) bi_X4 rfl 0 0 (by decide) rfl bf_X4_10 rfl rfl dX4_count_121 ?_
                    obtain ⟨q10, hq10, hf⟩ := bb_b_some hf
                    refine z_callVi (pc := 124) (ci := 0) (q0 := 0) (As := []) (rest := []) C (hR.le (by decide)) (c_X0_followed (h 0) hq10) (cutp_X4_0 _ _ _) bv_X0_followed bm_X4_143 rfl rfl rfl rfl (Nat.le_of_ble_eq_true rfl) dX4_count_124 ?_
                    obtain rfl := Option.some.inj hf
                    exact z_iret (pc := 127) C hr R dX4_count_127
                  · have hf := bb_e hf hc9
                    by_cases hc11 : x1 = 9
                    · have hf := bb_t hf hc11
                      refine z_tabIn (pc := 1) C 128 (9 : Int32) dX4_count_1 hc11 (by decide) (by decide) rfl (by decide) ?_
                      refine z_aload_n (pc := 128) (i := 0) C 0 dX4_count_128 rfl rfl ?_
                      refine z_get (pc := 129) (ci := 4) C (.ref (h 1 0)) bi_X4 rfl 0 1 (by decide) rfl bf_X4_19 rfl rfl dX4_count_129 ?_
                      refine z_get (pc := 132) (ci := 1) C (.int (((s0 1)).1 2)) bi_X1 rfl 8 2 (by decide) rfl bf_X4_146 rfl rfl dX4_count_132 ?_
                      obtain rfl := Option.some.inj hf
                      exact z_iret (pc := 135) C hr R dX4_count_135
                    · have hf := bb_e hf hc11
                      refine z_tabOut (pc := 1) C 136 dX4_count_1 (by have a0 := lv_neT hc1 (show (0 : Int32).toInt = 0 by decide); have a1 := lv_neT hc2 (show (1 : Int32).toInt = 1 by decide); have a2 := lv_neT hc3 (show (2 : Int32).toInt = 2 by decide); have a3 := lv_neT hc4 (show (3 : Int32).toInt = 3 by decide); have a4 := lv_neT hc5 (show (4 : Int32).toInt = 4 by decide); have a5 := lv_neT hc6 (show (5 : Int32).toInt = 5 by decide); have a6 := lv_neT hc7 (show (6 : Int32).toInt = 6 by decide); have a7 := lv_neT hc8 (show (7 : Int32).toInt = 7 by decide); have a8 := lv_neT hc9 (show (8 : Int32).toInt = 8 by decide); have a9 := lv_neT hc11 (show (9 : Int32).toInt = 9 by decide); omega) (by decide) ?_
                      refine z_iconst (pc := 136) C (-1 : Int32) dX4_count_136 (by decide) ?_
                      obtain rfl := Option.some.inj hf
                      exact z_iret (pc := 137) C hr R dX4_count_137
theorem c_X4_count {l : Launch} {D : va_G} {cs : Nat → ClassId} (h : Nat → Nat → Nat) {s0 : bb_H} {x1 : Int32} {z : Int32} (hf : F_X4_count_0 s0 x1 = some z) : bb_M l yX4_count cX4_count 2 (some .int) 5 D cs [.ref (h 5 0), .int x1] (some (.int z)) (wX4 cs h s0) (wX4 cs h s0) := bb_mg (by decide) rfl (Nat.le_of_ble_eq_true rfl) rfl (fun X hl hD hcs C hR hr R => by
  subst hl
  subst hD
  subst hcs
  exact B_X4_count_0 C hR hr h R hf)
/-! X4_minutes: writes, level 6 -/
noncomputable def G_X4_minutes_32 (k32 : bb_H → Int32 → Int32 → Option (Int32 × bb_H)) (s0 : bb_H) (x1 : Int32) (x2 : Int32) : Option (Int32 × bb_H) := if x1 ≤ x2 then (some (((s0 0)).1 4, s0)) else ((F_X1_keep_0 ((s0 1)) ((s0 0))).bind (fun q2 => (F_X0_pass_0 (((va_up (va_up s0 1 q2.1) 0 q2.2) 0))).bind (fun q3 => k32 (va_up (va_up (va_up s0 1 q2.1) 0 q2.2) 0 q3.2) x1 (x2 + 1))))
noncomputable def F_X4_minutes_32  : Nat → bb_H → Int32 → Int32 → Option (Int32 × bb_H)
  | 0, _, _, _ => none
  | n + 1, s0, x1, x2 => G_X4_minutes_32  (F_X4_minutes_32  n) s0 x1 x2
set_option maxHeartbeats 4000000 in
set_option maxRecDepth 100000 in
theorem A_X4_minutes_32 {X : bb_X} (C : bb_C X RX4 cX4_minutes 3) (hR : bb_r X 6) (hr : X.meth.sig.returnType = (some .int)) (h : Nat → Nat → Nat) {z : (Int32 × bb_H)} (R : bb_R X (some (.int z.1)) (wX4 X.cs h z.2)) {k32 : bb_H → Int32 → Int32 → Option (Int32 × bb_H)} (hk32 : ∀ (s0 : bb_H) (x1 : Int32) (x2 : Int32), k32 s0 x1 x2 = some z → bb_Z X 3 (wX4 X.cs h s0) 32 [(0, .ref (h 5 0)), (1, .int x1), (2, .int x2)] []) {s0 : bb_H} {x1 : Int32} {x2 : Int32} (hf : G_X4_minutes_32 k32 s0 x1 x2 = some z) : bb_Z X 3 (wX4 X.cs h s0) 32 [(0, .ref (h 5 0)), (1, .int x1), (2, .int x2)] [] := by
  refine z_iload_n (pc := 32) (i := 2) C 2 dX4_minutes_32 rfl rfl ?_
  refine z_iload_n (pc := 33) (i := 1) C 1 dX4_minutes_33 rfl rfl ?_
  refine z_icmp_ge (pc := 34) C 62 dX4_minutes_34 (by decide) (fun hc1 => ?_) (fun hc1 => ?_)
  · have hf := bb_t hf hc1
    refine z_aload_n (pc := 62) (i := 0) C 0 dX4_minutes_62 rfl rfl ?_
    refine z_get (pc := 63) (ci := 4) C (.ref (h 0 0)) bi_X4 rfl 0 0 (by decide) rfl bf_X4_10 rfl rfl dX4_minutes_63 ?_
    refine z_get (pc := 66) (ci := 0) C (.int (((s0 0)).1 4)) bi_X0 rfl 2 4 (by decide) rfl bf_X4_134 rfl rfl dX4_minutes_66 ?_
    obtain rfl := Option.some.inj hf
    exact z_iret (pc := 69) C hr R dX4_minutes_69
  · have hf := bb_e hf hc1
    refine z_aload_n (pc := 37) (i := 0) C 0 dX4_minutes_37 rfl rfl ?_
    refine z_get (pc := 38) (ci := 4) C (.ref (h 1 0)) bi_X4 rfl 0 1 (by decide) rfl bf_X4_19 rfl rfl dX4_minutes_38 ?_
    refine z_aload_n (pc := 41) (i := 0) C 0 dX4_minutes_41 rfl rfl ?_
    refine z_get (pc := 42) (ci := 4) C (.ref (h 0 0)) bi_X4 rfl 0 0 (by decide) rfl bf_X4_10 rfl rfl dX4_minutes_42 ?_
    obtain ⟨q2, hq2, hf⟩ := bb_b_some hf
    refine z_callVv (pc := 45) (ci := 1) (q0 := 0) (As := [.ref (h 0 0)]) (rest := []) (ws' := wX4 X.cs h (va_up (va_up s0 1 q2.1) 0 q2.2)) C (hR.le (by decide)) (c_X1_keep (h 1) (h 0) hq2) (cut_X4_1_0 _ _ _ _ _) bv_X1_keep bm_X4_149 rfl rfl rfl rfl (Nat.le_of_ble_eq_true rfl) dX4_minutes_45 ?_
    refine z_aload_n (pc := 48) (i := 0) C 0 dX4_minutes_48 rfl rfl ?_
    refine z_get (pc := 49) (ci := 4) C (.ref (h 0 0)) bi_X4 rfl 0 0 (by decide) rfl bf_X4_10 rfl rfl dX4_minutes_49 ?_
    obtain ⟨q3, hq3, hf⟩ := bb_b_some hf
    refine z_callVi (pc := 52) (ci := 0) (q0 := 0) (As := []) (rest := []) (ws' := wX4 X.cs h (va_up (va_up (va_up s0 1 q2.1) 0 q2.2) 0 q3.2)) C (hR.le (by decide)) (c_X0_pass (h 0) hq3) (cut_X4_0 _ _ _ _) bv_X0_pass bm_X4_152 rfl rfl rfl rfl (Nat.le_of_ble_eq_true rfl) dX4_minutes_52 ?_
    refine z_pop (pc := 55) C dX4_minutes_55 rfl ?_
    refine z_iinc (pc := 56) (lv' := [(2, .int (x2 + 1)), (0, .ref (h 5 0)), (1, .int x1)]) C (x2 + 1) 2 dX4_minutes_56 rfl rfl (by decide) rfl ?_
    refine z_goto (pc := 59) C 32 dX4_minutes_59 (by decide) ?_
    refine z_lv [1, 2, 0] rfl ?_
    exact hk32 _ _ _ hf
theorem B_X4_minutes_32 {X : bb_X} (C : bb_C X RX4 cX4_minutes 3) (hR : bb_r X 6) (hr : X.meth.sig.returnType = (some .int)) (h : Nat → Nat → Nat) {z : (Int32 × bb_H)} (R : bb_R X (some (.int z.1)) (wX4 X.cs h z.2)) : ∀ (n : Nat) (s0 : bb_H) (x1 : Int32) (x2 : Int32), F_X4_minutes_32  n s0 x1 x2 = some z → bb_Z X 3 (wX4 X.cs h s0) 32 [(0, .ref (h 5 0)), (1, .int x1), (2, .int x2)] [] := by
  intro n
  induction n with
  | zero =>
    intro s0 x1 x2 hf
    cases hf
  | succ n ih =>
    intro s0 x1 x2 hf
    exact A_X4_minutes_32 C hR hr h R  ih hf
noncomputable def F_X4_minutes_0 (s0 : bb_H) (x1 : Int32) : Option (Int32 × bb_H) := (F_X4_outside_0 x1 ((1 : Int32)) ((40 : Int32))).bind (fun q1 => if q1 = 0 then (if ((((s0 0)).1 5) + x1) ≤ ((9999 : Int32)) then (F_X4_minutes_32 bb_N s0 x1 ((0 : Int32))) else (some ((-3 : Int32), s0))) else (some ((-1 : Int32), s0)))
set_option maxHeartbeats 4000000 in
set_option maxRecDepth 100000 in
theorem B_X4_minutes_0 {X : bb_X} (C : bb_C X RX4 cX4_minutes 3) (hR : bb_r X 6) (hr : X.meth.sig.returnType = (some .int)) (h : Nat → Nat → Nat) {z : (Int32 × bb_H)} (R : bb_R X (some (.int z.1)) (wX4 X.cs h z.2)) {s0 : bb_H} {x1 : Int32} (hf : F_X4_minutes_0 s0 x1 = some z) : bb_Z X 3 (wX4 X.cs h s0) 0 [(0, .ref (h 5 0)), (1, .int x1)] [] := by
  refine z_iload_n (pc := 0) (i := 1) C 1 dX4_minutes_0 rfl rfl ?_
  refine z_iconst (pc := 1) C (1 : Int32) dX4_minutes_1 (by decide) ?_
  refine z_bipush (pc := 2) C (40 : Int32) dX4_minutes_2 (by decide) ?_
  obtain ⟨q1, hq1, hf⟩ := bb_b_some hf
  refine z_callSi (pc := 4) (As := [.int x1, .int ((1 : Int32)), .int ((40 : Int32))]) (rest := []) C (hR.le (by decide)) (c_X4_outside hq1) (bb_cut_none _) bv_X4_outside bm_X4_46 rfl rfl (Nat.le_of_ble_eq_true rfl) dX4_minutes_4 ?_
  refine z_if_eq (pc := 7) C 12 dX4_minutes_7 (by decide) (fun hc2 => ?_) (fun hc2 => ?_)
  · have hf := bb_t hf hc2
    refine z_aload_n (pc := 12) (i := 0) C 0 dX4_minutes_12 rfl rfl ?_
    refine z_get (pc := 13) (ci := 4) C (.ref (h 0 0)) bi_X4 rfl 0 0 (by decide) rfl bf_X4_10 rfl rfl dX4_minutes_13 ?_
    refine z_get (pc := 16) (ci := 0) C (.int (((s0 0)).1 5)) bi_X0 rfl 2 5 (by decide) rfl bf_X4_131 rfl rfl dX4_minutes_16 ?_
    refine z_iload_n (pc := 19) (i := 1) C 1 dX4_minutes_19 rfl rfl ?_
    refine z_iadd (pc := 20) C dX4_minutes_20 ?_
    refine z_sipush (pc := 21) C (9999 : Int32) dX4_minutes_21 (by decide) ?_
    refine z_icmp_le (pc := 24) C 30 dX4_minutes_24 (by decide) (fun hc3 => ?_) (fun hc3 => ?_)
    · have hf := bb_t hf hc3
      refine z_iconst (pc := 30) C (0 : Int32) dX4_minutes_30 (by decide) ?_
      refine z_istore_n (pc := 31) (i := 2) (lv' := [(2, .int ((0 : Int32))), (0, .ref (h 5 0)), (1, .int x1)]) C dX4_minutes_31 rfl (by decide) rfl ?_
      refine z_lv [1, 2, 0] rfl ?_
      exact B_X4_minutes_32 C hR hr h R  bb_N _ _ _ hf
    · have hf := bb_e hf hc3
      refine z_bipush (pc := 27) C (-3 : Int32) dX4_minutes_27 (by decide) ?_
      obtain rfl := Option.some.inj hf
      exact z_iret (pc := 29) C hr R dX4_minutes_29
  · have hf := bb_e hf hc2
    refine z_iconst (pc := 10) C (-1 : Int32) dX4_minutes_10 (by decide) ?_
    obtain rfl := Option.some.inj hf
    exact z_iret (pc := 11) C hr R dX4_minutes_11
theorem c_X4_minutes {l : Launch} {D : va_G} {cs : Nat → ClassId} (h : Nat → Nat → Nat) {s0 : bb_H} {x1 : Int32} {z : (Int32 × bb_H)} (hf : F_X4_minutes_0 s0 x1 = some z) : bb_M l yX4_minutes cX4_minutes 3 (some .int) 6 D cs [.ref (h 5 0), .int x1] (some (.int z.1)) (wX4 cs h s0) (wX4 cs h z.2) := bb_mg (by decide) rfl (Nat.le_of_ble_eq_true rfl) rfl (fun X hl hD hcs C hR hr R => by
  subst hl
  subst hD
  subst hcs
  exact B_X4_minutes_0 C hR hr h R hf)
/-! X4_walk: writes, level 3 -/
noncomputable def F_X4_walk_17 (s0 : bb_H) : Option (Int32 × bb_H) := some ((-1 : Int32), s0)
set_option maxHeartbeats 4000000 in
set_option maxRecDepth 100000 in
theorem B_X4_walk_17 {X : bb_X} (C : bb_C X RX4 cX4_walk 4) (hR : bb_r X 3) (hr : X.meth.sig.returnType = (some .int)) (h : Nat → Nat → Nat) {z : (Int32 × bb_H)} (R : bb_R X (some (.int z.1)) (wX4 X.cs h z.2)) {s0 : bb_H} (hf : F_X4_walk_17 s0 = some z) : bb_Z X 4 (wX4 X.cs h s0) 17 [] [] := by
  refine z_iconst (pc := 17) C (-1 : Int32) dX4_walk_17 (by decide) ?_
  obtain rfl := Option.some.inj hf
  exact z_iret (pc := 18) C hr R dX4_walk_18
noncomputable def F_X4_walk_54 (s0 : bb_H) : Option (Int32 × bb_H) := some ((-2 : Int32), s0)
set_option maxHeartbeats 4000000 in
set_option maxRecDepth 100000 in
theorem B_X4_walk_54 {X : bb_X} (C : bb_C X RX4 cX4_walk 4) (hR : bb_r X 3) (hr : X.meth.sig.returnType = (some .int)) (h : Nat → Nat → Nat) {z : (Int32 × bb_H)} (R : bb_R X (some (.int z.1)) (wX4 X.cs h z.2)) {s0 : bb_H} (hf : F_X4_walk_54 s0 = some z) : bb_Z X 4 (wX4 X.cs h s0) 54 [] [] := by
  refine z_bipush (pc := 54) C (-2 : Int32) dX4_walk_54 (by decide) ?_
  obtain rfl := Option.some.inj hf
  exact z_iret (pc := 56) C hr R dX4_walk_56
noncomputable def F_X4_walk_78 (s0 : bb_H) (x3 : Int32) : Option (Int32 × bb_H) := some (x3, s0)
set_option maxHeartbeats 4000000 in
set_option maxRecDepth 100000 in
theorem B_X4_walk_78 {X : bb_X} (C : bb_C X RX4 cX4_walk 4) (hR : bb_r X 3) (hr : X.meth.sig.returnType = (some .int)) (h : Nat → Nat → Nat) {z : (Int32 × bb_H)} (R : bb_R X (some (.int z.1)) (wX4 X.cs h z.2)) {s0 : bb_H} {x3 : Int32} (hf : F_X4_walk_78 s0 x3 = some z) : bb_Z X 4 (wX4 X.cs h s0) 78 [(3, .int x3)] [] := by
  refine z_iload_n (pc := 78) (i := 3) C 0 dX4_walk_78 rfl rfl ?_
  obtain rfl := Option.some.inj hf
  exact z_iret (pc := 79) C hr R dX4_walk_79
noncomputable def F_X4_walk_0 (s0 : bb_H) (x1 : Int32) (x2 : Int32) : Option (Int32 × bb_H) := (F_X4_isNobody_0 s0 x1).bind (fun q1 => if q1 = 0 then ((F_X4_outside_0 x2 ((0 : Int32)) ((3 : Int32))).bind (fun q3 => if q3 = 0 then (bb_g (vp_in x1 6) ((F_X0_beside_0 ((s0 0)) (((s0 0)).2.1 10 x1.toNatClampNeg) x2).bind (fun q6 => (F_X0_isFree_0 ((s0 0)) x1).bind (fun q7 => if q7 = 0 then (F_X4_walk_54 s0) else (if q6 = ((-4 : Int32)) then (F_X4_walk_54 s0) else ((F_X1_keep_0 ((s0 1)) ((s0 0))).bind (fun q10 => bb_g (vp_in x1 6) (F_X4_walk_78 (va_up (va_up (va_up s0 1 q10.1) 0 q10.2) 0 (bb_sA (((va_up (va_up s0 1 q10.1) 0 q10.2) 0)) 10 (upd ((((va_up (va_up s0 1 q10.1) 0 q10.2) 0)).2.1 10) x1.toNatClampNeg q6))) q6)))))))) else (F_X4_walk_17 s0))) else (F_X4_walk_17 s0))
set_option maxHeartbeats 4000000 in
set_option maxRecDepth 100000 in
theorem B_X4_walk_0 {X : bb_X} (C : bb_C X RX4 cX4_walk 4) (hR : bb_r X 3) (hr : X.meth.sig.returnType = (some .int)) (h : Nat → Nat → Nat) {z : (Int32 × bb_H)} (R : bb_R X (some (.int z.1)) (wX4 X.cs h z.2)) {s0 : bb_H} {x1 : Int32} {x2 : Int32} (hf : F_X4_walk_0 s0 x1 x2 = some z) : bb_Z X 4 (wX4 X.cs h s0) 0 [(0, .ref (h 5 0)), (1, .int x1), (2, .int x2)] [] := by
  refine z_aload_n (pc := 0) (i := 0) C 0 dX4_walk_0 rfl rfl ?_
  refine z_iload_n (pc := 1) (i := 1) C 1 dX4_walk_1 rfl rfl ?_
  obtain ⟨q1, hq1, hf⟩ := bb_b_some hf
  refine z_callVi (pc := 2) (ci := 4) (q0 := 0) (As := [.int x1]) (rest := []) C (hR.le (by decide)) (c_X4_isNobody h hq1) (bb_cut_self _ _) bv_X4_isNobody bm_X4_69 rfl rfl rfl rfl (Nat.le_of_ble_eq_true rfl) dX4_walk_2 ?_
  refine z_if_ne (pc := 5) C 17 dX4_walk_5 (by decide) (fun hc2 => ?_) (fun hc2 => ?_)
  · have hf := bb_e hf hc2
    refine z_lv [] rfl ?_
    exact B_X4_walk_17 C hR hr h R  hf
  · have hf := bb_t hf hc2
    refine z_iload_n (pc := 8) (i := 2) C 2 dX4_walk_8 rfl rfl ?_
    refine z_iconst (pc := 9) C (0 : Int32) dX4_walk_9 (by decide) ?_
    refine z_iconst (pc := 10) C (3 : Int32) dX4_walk_10 (by decide) ?_
    obtain ⟨q3, hq3, hf⟩ := bb_b_some hf
    refine z_callSi (pc := 11) (As := [.int x2, .int ((0 : Int32)), .int ((3 : Int32))]) (rest := []) C (hR.le (by decide)) (c_X4_outside hq3) (bb_cut_none _) bv_X4_outside bm_X4_46 rfl rfl (Nat.le_of_ble_eq_true rfl) dX4_walk_11 ?_
    refine z_if_eq (pc := 14) C 19 dX4_walk_14 (by decide) (fun hc4 => ?_) (fun hc4 => ?_)
    · have hf := bb_t hf hc4
      refine z_aload_n (pc := 19) (i := 0) C 0 dX4_walk_19 rfl rfl ?_
      refine z_get (pc := 20) (ci := 4) C (.ref (h 0 0)) bi_X4 rfl 0 0 (by decide) rfl bf_X4_10 rfl rfl dX4_walk_20 ?_
      refine z_aload_n (pc := 23) (i := 0) C 0 dX4_walk_23 rfl rfl ?_
      refine z_get (pc := 24) (ci := 4) C (.ref (h 0 0)) bi_X4 rfl 0 0 (by decide) rfl bf_X4_10 rfl rfl dX4_walk_24 ?_
      refine z_get (pc := 27) (ci := 0) C (.ref (h 0 11)) bi_X0 rfl 2 10 (by decide) rfl bf_X4_77 rfl rfl dX4_walk_27 ?_
      refine z_iload_n (pc := 30) (i := 1) C 1 dX4_walk_30 rfl rfl ?_
      obtain ⟨hv5, hf⟩ := bb_g_some hf
      refine z_iald (pc := 31) C 4 0 (x1.toNatClampNeg) rfl rfl hv5 rfl dX4_walk_31 ?_
      refine z_iload_n (pc := 32) (i := 2) C 2 dX4_walk_32 rfl rfl ?_
      obtain ⟨q6, hq6, hf⟩ := bb_b_some hf
      refine z_callVi (pc := 33) (ci := 0) (q0 := 0) (As := [.int (((s0 0)).2.1 10 x1.toNatClampNeg), .int x2]) (rest := []) C (hR.le (by decide)) (c_X0_beside (h 0) hq6) (cutp_X4_0 _ _ _) bv_X0_beside bm_X4_155 rfl rfl rfl rfl (Nat.le_of_ble_eq_true rfl) dX4_walk_33 ?_
      refine z_istore_n (pc := 36) (i := 3) (lv' := [(3, .int q6), (0, .ref (h 5 0)), (1, .int x1), (2, .int x2)]) C dX4_walk_36 rfl (by decide) rfl ?_
      refine z_aload_n (pc := 37) (i := 0) C 1 dX4_walk_37 rfl rfl ?_
      refine z_get (pc := 38) (ci := 4) C (.ref (h 0 0)) bi_X4 rfl 0 0 (by decide) rfl bf_X4_10 rfl rfl dX4_walk_38 ?_
      refine z_iload_n (pc := 41) (i := 1) C 2 dX4_walk_41 rfl rfl ?_
      obtain ⟨q7, hq7, hf⟩ := bb_b_some hf
      refine z_callVi (pc := 42) (ci := 0) (q0 := 0) (As := [.int x1]) (rest := []) C (hR.le (by decide)) (c_X0_isFree (h 0) hq7) (cutp_X4_0 _ _ _) bv_X0_isFree bm_X4_89 rfl rfl rfl rfl (Nat.le_of_ble_eq_true rfl) dX4_walk_42 ?_
      refine z_if_eq (pc := 45) C 54 dX4_walk_45 (by decide) (fun hc8 => ?_) (fun hc8 => ?_)
      · have hf := bb_t hf hc8
        refine z_lv [] rfl ?_
        exact B_X4_walk_54 C hR hr h R  hf
      · have hf := bb_e hf hc8
        refine z_iload_n (pc := 48) (i := 3) C 0 dX4_walk_48 rfl rfl ?_
        refine z_bipush (pc := 49) C (-4 : Int32) dX4_walk_49 (by decide) ?_
        refine z_icmp_ne (pc := 51) C 57 dX4_walk_51 (by decide) (fun hc9 => ?_) (fun hc9 => ?_)
        · have hf := bb_e hf hc9
          refine z_aload_n (pc := 57) (i := 0) C 1 dX4_walk_57 rfl rfl ?_
          refine z_get (pc := 58) (ci := 4) C (.ref (h 1 0)) bi_X4 rfl 0 1 (by decide) rfl bf_X4_19 rfl rfl dX4_walk_58 ?_
          refine z_aload_n (pc := 61) (i := 0) C 1 dX4_walk_61 rfl rfl ?_
          refine z_get (pc := 62) (ci := 4) C (.ref (h 0 0)) bi_X4 rfl 0 0 (by decide) rfl bf_X4_10 rfl rfl dX4_walk_62 ?_
          obtain ⟨q10, hq10, hf⟩ := bb_b_some hf
          refine z_callVv (pc := 65) (ci := 1) (q0 := 0) (As := [.ref (h 0 0)]) (rest := []) (ws' := wX4 X.cs h (va_up (va_up s0 1 q10.1) 0 q10.2)) C (hR.le (by decide)) (c_X1_keep (h 1) (h 0) hq10) (cut_X4_1_0 _ _ _ _ _) bv_X1_keep bm_X4_149 rfl rfl rfl rfl (Nat.le_of_ble_eq_true rfl) dX4_walk_65 ?_
          refine z_aload_n (pc := 68) (i := 0) C 1 dX4_walk_68 rfl rfl ?_
          refine z_get (pc := 69) (ci := 4) C (.ref (h 0 0)) bi_X4 rfl 0 0 (by decide) rfl bf_X4_10 rfl rfl dX4_walk_69 ?_
          refine z_get (pc := 72) (ci := 0) C (.ref (h 0 11)) bi_X0 rfl 2 10 (by decide) rfl bf_X4_77 rfl rfl dX4_walk_72 ?_
          refine z_iload_n (pc := 75) (i := 1) C 2 dX4_walk_75 rfl rfl ?_
          refine z_iload_n (pc := 76) (i := 3) C 0 dX4_walk_76 rfl rfl ?_
          obtain ⟨hv11, hf⟩ := bb_g_some hf
          refine z_iast (pc := 77) (ws' := wX4 X.cs h (va_up (va_up (va_up s0 1 q10.1) 0 q10.2) 0 (bb_sA (((va_up (va_up s0 1 q10.1) 0 q10.2) 0)) 10 (upd ((((va_up (va_up s0 1 q10.1) 0 q10.2) 0)).2.1 10) x1.toNatClampNeg q6)))) C 4 0 (x1.toNatClampNeg) rfl rfl hv11 rfl rfl dX4_walk_77 ?_
          refine z_lv [0] rfl ?_
          exact B_X4_walk_78 C hR hr h R  hf
        · have hf := bb_t hf hc9
          refine z_lv [] rfl ?_
          exact B_X4_walk_54 C hR hr h R  hf
    · have hf := bb_e hf hc4
      refine z_lv [] rfl ?_
      exact B_X4_walk_17 C hR hr h R  hf
theorem c_X4_walk {l : Launch} {D : va_G} {cs : Nat → ClassId} (h : Nat → Nat → Nat) {s0 : bb_H} {x1 : Int32} {x2 : Int32} {z : (Int32 × bb_H)} (hf : F_X4_walk_0 s0 x1 x2 = some z) : bb_M l yX4_walk cX4_walk 4 (some .int) 3 D cs [.ref (h 5 0), .int x1, .int x2] (some (.int z.1)) (wX4 cs h s0) (wX4 cs h z.2) := bb_mg (by decide) rfl (Nat.le_of_ble_eq_true rfl) rfl (fun X hl hD hcs C hR hr R => by
  subst hl
  subst hD
  subst hcs
  exact B_X4_walk_0 C hR hr h R hf)
/-! X4_free: writes, level 2 -/
noncomputable def F_X4_free_52 (s0 : bb_H) : Option (Int32 × bb_H) := some (((s0 0)).1 4, s0)
set_option maxHeartbeats 4000000 in
set_option maxRecDepth 100000 in
theorem B_X4_free_52 {X : bb_X} (C : bb_C X RX4 cX4_free 2) (hR : bb_r X 2) (hr : X.meth.sig.returnType = (some .int)) (h : Nat → Nat → Nat) {z : (Int32 × bb_H)} (R : bb_R X (some (.int z.1)) (wX4 X.cs h z.2)) {s0 : bb_H} (hf : F_X4_free_52 s0 = some z) : bb_Z X 2 (wX4 X.cs h s0) 52 [(0, .ref (h 5 0))] [] := by
  refine z_aload_n (pc := 52) (i := 0) C 0 dX4_free_52 rfl rfl ?_
  refine z_get (pc := 53) (ci := 4) C (.ref (h 0 0)) bi_X4 rfl 0 0 (by decide) rfl bf_X4_10 rfl rfl dX4_free_53 ?_
  refine z_get (pc := 56) (ci := 0) C (.int (((s0 0)).1 4)) bi_X0 rfl 2 4 (by decide) rfl bf_X4_134 rfl rfl dX4_free_56 ?_
  obtain rfl := Option.some.inj hf
  exact z_iret (pc := 59) C hr R dX4_free_59
noncomputable def F_X4_free_0 (s0 : bb_H) (x1 : Int32) : Option (Int32 × bb_H) := (F_X4_isNobody_0 s0 x1).bind (fun q1 => if q1 = 0 then ((F_X0_isFree_0 ((s0 0)) x1).bind (fun q3 => if q3 = 0 then ((F_X1_keep_0 ((s0 1)) ((s0 0))).bind (fun q5 => F_X4_free_52 (va_up (va_up (va_up s0 1 q5.1) 0 q5.2) 0 (bb_sf (((va_up (va_up s0 1 q5.1) 0 q5.2) 0)) 4 (((((va_up (va_up s0 1 q5.1) 0 q5.2) 0)).1 4) &&& ((((1 : Int32)) <<< (x1 &&& 31)) ^^^ ((-1 : Int32)))))))) else (some ((-2 : Int32), s0)))) else (some ((-1 : Int32), s0)))
set_option maxHeartbeats 4000000 in
set_option maxRecDepth 100000 in
theorem B_X4_free_0 {X : bb_X} (C : bb_C X RX4 cX4_free 2) (hR : bb_r X 2) (hr : X.meth.sig.returnType = (some .int)) (h : Nat → Nat → Nat) {z : (Int32 × bb_H)} (R : bb_R X (some (.int z.1)) (wX4 X.cs h z.2)) {s0 : bb_H} {x1 : Int32} (hf : F_X4_free_0 s0 x1 = some z) : bb_Z X 2 (wX4 X.cs h s0) 0 [(0, .ref (h 5 0)), (1, .int x1)] [] := by
  refine z_aload_n (pc := 0) (i := 0) C 0 dX4_free_0 rfl rfl ?_
  refine z_iload_n (pc := 1) (i := 1) C 1 dX4_free_1 rfl rfl ?_
  obtain ⟨q1, hq1, hf⟩ := bb_b_some hf
  refine z_callVi (pc := 2) (ci := 4) (q0 := 0) (As := [.int x1]) (rest := []) C (hR.le (by decide)) (c_X4_isNobody h hq1) (bb_cut_self _ _) bv_X4_isNobody bm_X4_69 rfl rfl rfl rfl (Nat.le_of_ble_eq_true rfl) dX4_free_2 ?_
  refine z_if_eq (pc := 5) C 10 dX4_free_5 (by decide) (fun hc2 => ?_) (fun hc2 => ?_)
  · have hf := bb_t hf hc2
    refine z_aload_n (pc := 10) (i := 0) C 0 dX4_free_10 rfl rfl ?_
    refine z_get (pc := 11) (ci := 4) C (.ref (h 0 0)) bi_X4 rfl 0 0 (by decide) rfl bf_X4_10 rfl rfl dX4_free_11 ?_
    refine z_iload_n (pc := 14) (i := 1) C 1 dX4_free_14 rfl rfl ?_
    obtain ⟨q3, hq3, hf⟩ := bb_b_some hf
    refine z_callVi (pc := 15) (ci := 0) (q0 := 0) (As := [.int x1]) (rest := []) C (hR.le (by decide)) (c_X0_isFree (h 0) hq3) (cutp_X4_0 _ _ _) bv_X0_isFree bm_X4_89 rfl rfl rfl rfl (Nat.le_of_ble_eq_true rfl) dX4_free_15 ?_
    refine z_if_eq (pc := 18) C 24 dX4_free_18 (by decide) (fun hc4 => ?_) (fun hc4 => ?_)
    · have hf := bb_t hf hc4
      refine z_aload_n (pc := 24) (i := 0) C 0 dX4_free_24 rfl rfl ?_
      refine z_get (pc := 25) (ci := 4) C (.ref (h 1 0)) bi_X4 rfl 0 1 (by decide) rfl bf_X4_19 rfl rfl dX4_free_25 ?_
      refine z_aload_n (pc := 28) (i := 0) C 0 dX4_free_28 rfl rfl ?_
      refine z_get (pc := 29) (ci := 4) C (.ref (h 0 0)) bi_X4 rfl 0 0 (by decide) rfl bf_X4_10 rfl rfl dX4_free_29 ?_
      obtain ⟨q5, hq5, hf⟩ := bb_b_some hf
      refine z_callVv (pc := 32) (ci := 1) (q0 := 0) (As := [.ref (h 0 0)]) (rest := []) (ws' := wX4 X.cs h (va_up (va_up s0 1 q5.1) 0 q5.2)) C (hR.le (by decide)) (c_X1_keep (h 1) (h 0) hq5) (cut_X4_1_0 _ _ _ _ _) bv_X1_keep bm_X4_149 rfl rfl rfl rfl (Nat.le_of_ble_eq_true rfl) dX4_free_32 ?_
      refine z_aload_n (pc := 35) (i := 0) C 0 dX4_free_35 rfl rfl ?_
      refine z_get (pc := 36) (ci := 4) C (.ref (h 0 0)) bi_X4 rfl 0 0 (by decide) rfl bf_X4_10 rfl rfl dX4_free_36 ?_
      refine z_dup (pc := 39) C dX4_free_39 rfl ?_
      refine z_get (pc := 40) (ci := 0) C (.int ((((va_up (va_up s0 1 q5.1) 0 q5.2) 0)).1 4)) bi_X0 rfl 2 4 (by decide) rfl bf_X4_134 rfl rfl dX4_free_40 ?_
      refine z_iconst (pc := 43) C (1 : Int32) dX4_free_43 (by decide) ?_
      refine z_iload_n (pc := 44) (i := 1) C 1 dX4_free_44 rfl rfl ?_
      refine z_ishl (pc := 45) C dX4_free_45 ?_
      refine z_iconst (pc := 46) C (-1 : Int32) dX4_free_46 (by decide) ?_
      refine z_ixor (pc := 47) C dX4_free_47 ?_
      refine z_iand (pc := 48) C dX4_free_48 ?_
      refine z_put (pc := 49) (ci := 0) (ty := .int) (ws' := wX4 X.cs h (va_up (va_up (va_up s0 1 q5.1) 0 q5.2) 0 (bb_sf (((va_up (va_up s0 1 q5.1) 0 q5.2) 0)) 4 (((((va_up (va_up s0 1 q5.1) 0 q5.2) 0)).1 4) &&& ((((1 : Int32)) <<< (x1 &&& 31)) ^^^ ((-1 : Int32))))))) C bi_X0 tyX0_ok nmX0 rfl 2 4 (by decide) rfl bf_X4_134 rfl rfl rfl rfl rfl (Nat.le_of_ble_eq_true rfl) rfl dX4_free_49 ?_
      refine z_lv [0] rfl ?_
      exact B_X4_free_52 C hR hr h R  hf
    · have hf := bb_e hf hc4
      refine z_bipush (pc := 21) C (-2 : Int32) dX4_free_21 (by decide) ?_
      obtain rfl := Option.some.inj hf
      exact z_iret (pc := 23) C hr R dX4_free_23
  · have hf := bb_e hf hc2
    refine z_iconst (pc := 8) C (-1 : Int32) dX4_free_8 (by decide) ?_
    obtain rfl := Option.some.inj hf
    exact z_iret (pc := 9) C hr R dX4_free_9
theorem c_X4_free {l : Launch} {D : va_G} {cs : Nat → ClassId} (h : Nat → Nat → Nat) {s0 : bb_H} {x1 : Int32} {z : (Int32 × bb_H)} (hf : F_X4_free_0 s0 x1 = some z) : bb_M l yX4_free cX4_free 2 (some .int) 2 D cs [.ref (h 5 0), .int x1] (some (.int z.1)) (wX4 cs h s0) (wX4 cs h z.2) := bb_mg (by decide) rfl (Nat.le_of_ble_eq_true rfl) rfl (fun X hl hD hcs C hR hr R => by
  subst hl
  subst hD
  subst hcs
  exact B_X4_free_0 C hR hr h R hf)
/-! X4_drift: writes, level 6 -/
noncomputable def G_X4_drift_45 (k45 : bb_H → Int32 → Int32 → Option (Int32 × bb_H)) (s0 : bb_H) (x1 : Int32) (x2 : Int32) : Option (Int32 × bb_H) := if x1 ≤ x2 then (some (((s0 0)).1 4, s0)) else ((F_X1_keep_0 ((s0 1)) ((s0 0))).bind (fun q2 => (F_X0_stray_0 (((va_up (va_up s0 1 q2.1) 0 q2.2) 0))).bind (fun q3 => (F_X0_pass_0 (((va_up (va_up (va_up s0 1 q2.1) 0 q2.2) 0 q3) 0))).bind (fun q4 => k45 (va_up (va_up (va_up (va_up s0 1 q2.1) 0 q2.2) 0 q3) 0 q4.2) x1 (x2 + 1)))))
noncomputable def F_X4_drift_45  : Nat → bb_H → Int32 → Int32 → Option (Int32 × bb_H)
  | 0, _, _, _ => none
  | n + 1, s0, x1, x2 => G_X4_drift_45  (F_X4_drift_45  n) s0 x1 x2
set_option maxHeartbeats 4000000 in
set_option maxRecDepth 100000 in
theorem A_X4_drift_45 {X : bb_X} (C : bb_C X RX4 cX4_drift 3) (hR : bb_r X 6) (hr : X.meth.sig.returnType = (some .int)) (h : Nat → Nat → Nat) {z : (Int32 × bb_H)} (R : bb_R X (some (.int z.1)) (wX4 X.cs h z.2)) {k45 : bb_H → Int32 → Int32 → Option (Int32 × bb_H)} (hk45 : ∀ (s0 : bb_H) (x1 : Int32) (x2 : Int32), k45 s0 x1 x2 = some z → bb_Z X 3 (wX4 X.cs h s0) 45 [(0, .ref (h 5 0)), (1, .int x1), (2, .int x2)] []) {s0 : bb_H} {x1 : Int32} {x2 : Int32} (hf : G_X4_drift_45 k45 s0 x1 x2 = some z) : bb_Z X 3 (wX4 X.cs h s0) 45 [(0, .ref (h 5 0)), (1, .int x1), (2, .int x2)] [] := by
  refine z_iload_n (pc := 45) (i := 2) C 2 dX4_drift_45 rfl rfl ?_
  refine z_iload_n (pc := 46) (i := 1) C 1 dX4_drift_46 rfl rfl ?_
  refine z_icmp_ge (pc := 47) C 82 dX4_drift_47 (by decide) (fun hc1 => ?_) (fun hc1 => ?_)
  · have hf := bb_t hf hc1
    refine z_aload_n (pc := 82) (i := 0) C 0 dX4_drift_82 rfl rfl ?_
    refine z_get (pc := 83) (ci := 4) C (.ref (h 0 0)) bi_X4 rfl 0 0 (by decide) rfl bf_X4_10 rfl rfl dX4_drift_83 ?_
    refine z_get (pc := 86) (ci := 0) C (.int (((s0 0)).1 4)) bi_X0 rfl 2 4 (by decide) rfl bf_X4_134 rfl rfl dX4_drift_86 ?_
    obtain rfl := Option.some.inj hf
    exact z_iret (pc := 89) C hr R dX4_drift_89
  · have hf := bb_e hf hc1
    refine z_aload_n (pc := 50) (i := 0) C 0 dX4_drift_50 rfl rfl ?_
    refine z_get (pc := 51) (ci := 4) C (.ref (h 1 0)) bi_X4 rfl 0 1 (by decide) rfl bf_X4_19 rfl rfl dX4_drift_51 ?_
    refine z_aload_n (pc := 54) (i := 0) C 0 dX4_drift_54 rfl rfl ?_
    refine z_get (pc := 55) (ci := 4) C (.ref (h 0 0)) bi_X4 rfl 0 0 (by decide) rfl bf_X4_10 rfl rfl dX4_drift_55 ?_
    obtain ⟨q2, hq2, hf⟩ := bb_b_some hf
    refine z_callVv (pc := 58) (ci := 1) (q0 := 0) (As := [.ref (h 0 0)]) (rest := []) (ws' := wX4 X.cs h (va_up (va_up s0 1 q2.1) 0 q2.2)) C (hR.le (by decide)) (c_X1_keep (h 1) (h 0) hq2) (cut_X4_1_0 _ _ _ _ _) bv_X1_keep bm_X4_149 rfl rfl rfl rfl (Nat.le_of_ble_eq_true rfl) dX4_drift_58 ?_
    refine z_aload_n (pc := 61) (i := 0) C 0 dX4_drift_61 rfl rfl ?_
    refine z_get (pc := 62) (ci := 4) C (.ref (h 0 0)) bi_X4 rfl 0 0 (by decide) rfl bf_X4_10 rfl rfl dX4_drift_62 ?_
    obtain ⟨q3, hq3, hf⟩ := bb_b_some hf
    refine z_callVv (pc := 65) (ci := 0) (q0 := 0) (As := []) (rest := []) (ws' := wX4 X.cs h (va_up (va_up (va_up s0 1 q2.1) 0 q2.2) 0 q3)) C (hR.le (by decide)) (c_X0_stray (h 0) hq3) (cut_X4_0 _ _ _ _) bv_X0_stray bm_X4_159 rfl rfl rfl rfl (Nat.le_of_ble_eq_true rfl) dX4_drift_65 ?_
    refine z_aload_n (pc := 68) (i := 0) C 0 dX4_drift_68 rfl rfl ?_
    refine z_get (pc := 69) (ci := 4) C (.ref (h 0 0)) bi_X4 rfl 0 0 (by decide) rfl bf_X4_10 rfl rfl dX4_drift_69 ?_
    obtain ⟨q4, hq4, hf⟩ := bb_b_some hf
    refine z_callVi (pc := 72) (ci := 0) (q0 := 0) (As := []) (rest := []) (ws' := wX4 X.cs h (va_up (va_up (va_up (va_up s0 1 q2.1) 0 q2.2) 0 q3) 0 q4.2)) C (hR.le (by decide)) (c_X0_pass (h 0) hq4) (cut_X4_0 _ _ _ _) bv_X0_pass bm_X4_152 rfl rfl rfl rfl (Nat.le_of_ble_eq_true rfl) dX4_drift_72 ?_
    refine z_pop (pc := 75) C dX4_drift_75 rfl ?_
    refine z_iinc (pc := 76) (lv' := [(2, .int (x2 + 1)), (0, .ref (h 5 0)), (1, .int x1)]) C (x2 + 1) 2 dX4_drift_76 rfl rfl (by decide) rfl ?_
    refine z_goto (pc := 79) C 45 dX4_drift_79 (by decide) ?_
    refine z_lv [1, 2, 0] rfl ?_
    exact hk45 _ _ _ hf
theorem B_X4_drift_45 {X : bb_X} (C : bb_C X RX4 cX4_drift 3) (hR : bb_r X 6) (hr : X.meth.sig.returnType = (some .int)) (h : Nat → Nat → Nat) {z : (Int32 × bb_H)} (R : bb_R X (some (.int z.1)) (wX4 X.cs h z.2)) : ∀ (n : Nat) (s0 : bb_H) (x1 : Int32) (x2 : Int32), F_X4_drift_45  n s0 x1 x2 = some z → bb_Z X 3 (wX4 X.cs h s0) 45 [(0, .ref (h 5 0)), (1, .int x1), (2, .int x2)] [] := by
  intro n
  induction n with
  | zero =>
    intro s0 x1 x2 hf
    cases hf
  | succ n ih =>
    intro s0 x1 x2 hf
    exact A_X4_drift_45 C hR hr h R  ih hf
noncomputable def F_X4_drift_0 (s0 : bb_H) (x1 : Int32) : Option (Int32 × bb_H) := (F_X4_outside_0 x1 ((1 : Int32)) ((40 : Int32))).bind (fun q1 => if q1 = 0 then (if (((s0 0)).1 2) = 0 then (some ((-2 : Int32), s0)) else (if ((((s0 0)).1 5) + x1) ≤ ((9999 : Int32)) then (F_X4_drift_45 bb_N s0 x1 ((0 : Int32))) else (some ((-3 : Int32), s0)))) else (some ((-1 : Int32), s0)))
set_option maxHeartbeats 4000000 in
set_option maxRecDepth 100000 in
theorem B_X4_drift_0 {X : bb_X} (C : bb_C X RX4 cX4_drift 3) (hR : bb_r X 6) (hr : X.meth.sig.returnType = (some .int)) (h : Nat → Nat → Nat) {z : (Int32 × bb_H)} (R : bb_R X (some (.int z.1)) (wX4 X.cs h z.2)) {s0 : bb_H} {x1 : Int32} (hf : F_X4_drift_0 s0 x1 = some z) : bb_Z X 3 (wX4 X.cs h s0) 0 [(0, .ref (h 5 0)), (1, .int x1)] [] := by
  refine z_iload_n (pc := 0) (i := 1) C 1 dX4_drift_0 rfl rfl ?_
  refine z_iconst (pc := 1) C (1 : Int32) dX4_drift_1 (by decide) ?_
  refine z_bipush (pc := 2) C (40 : Int32) dX4_drift_2 (by decide) ?_
  obtain ⟨q1, hq1, hf⟩ := bb_b_some hf
  refine z_callSi (pc := 4) (As := [.int x1, .int ((1 : Int32)), .int ((40 : Int32))]) (rest := []) C (hR.le (by decide)) (c_X4_outside hq1) (bb_cut_none _) bv_X4_outside bm_X4_46 rfl rfl (Nat.le_of_ble_eq_true rfl) dX4_drift_4 ?_
  refine z_if_eq (pc := 7) C 12 dX4_drift_7 (by decide) (fun hc2 => ?_) (fun hc2 => ?_)
  · have hf := bb_t hf hc2
    refine z_aload_n (pc := 12) (i := 0) C 0 dX4_drift_12 rfl rfl ?_
    refine z_get (pc := 13) (ci := 4) C (.ref (h 0 0)) bi_X4 rfl 0 0 (by decide) rfl bf_X4_10 rfl rfl dX4_drift_13 ?_
    refine z_get (pc := 16) (ci := 0) C (.int (((s0 0)).1 2)) bi_X0 rfl 2 2 (by decide) rfl bf_X4_61 rfl rfl dX4_drift_16 ?_
    refine z_if_ne (pc := 19) C 25 dX4_drift_19 (by decide) (fun hc3 => ?_) (fun hc3 => ?_)
    · have hf := bb_e hf hc3
      refine z_aload_n (pc := 25) (i := 0) C 0 dX4_drift_25 rfl rfl ?_
      refine z_get (pc := 26) (ci := 4) C (.ref (h 0 0)) bi_X4 rfl 0 0 (by decide) rfl bf_X4_10 rfl rfl dX4_drift_26 ?_
      refine z_get (pc := 29) (ci := 0) C (.int (((s0 0)).1 5)) bi_X0 rfl 2 5 (by decide) rfl bf_X4_131 rfl rfl dX4_drift_29 ?_
      refine z_iload_n (pc := 32) (i := 1) C 1 dX4_drift_32 rfl rfl ?_
      refine z_iadd (pc := 33) C dX4_drift_33 ?_
      refine z_sipush (pc := 34) C (9999 : Int32) dX4_drift_34 (by decide) ?_
      refine z_icmp_le (pc := 37) C 43 dX4_drift_37 (by decide) (fun hc4 => ?_) (fun hc4 => ?_)
      · have hf := bb_t hf hc4
        refine z_iconst (pc := 43) C (0 : Int32) dX4_drift_43 (by decide) ?_
        refine z_istore_n (pc := 44) (i := 2) (lv' := [(2, .int ((0 : Int32))), (0, .ref (h 5 0)), (1, .int x1)]) C dX4_drift_44 rfl (by decide) rfl ?_
        refine z_lv [1, 2, 0] rfl ?_
        exact B_X4_drift_45 C hR hr h R  bb_N _ _ _ hf
      · have hf := bb_e hf hc4
        refine z_bipush (pc := 40) C (-3 : Int32) dX4_drift_40 (by decide) ?_
        obtain rfl := Option.some.inj hf
        exact z_iret (pc := 42) C hr R dX4_drift_42
    · have hf := bb_t hf hc3
      refine z_bipush (pc := 22) C (-2 : Int32) dX4_drift_22 (by decide) ?_
      obtain rfl := Option.some.inj hf
      exact z_iret (pc := 24) C hr R dX4_drift_24
  · have hf := bb_e hf hc2
    refine z_iconst (pc := 10) C (-1 : Int32) dX4_drift_10 (by decide) ?_
    obtain rfl := Option.some.inj hf
    exact z_iret (pc := 11) C hr R dX4_drift_11
theorem c_X4_drift {l : Launch} {D : va_G} {cs : Nat → ClassId} (h : Nat → Nat → Nat) {s0 : bb_H} {x1 : Int32} {z : (Int32 × bb_H)} (hf : F_X4_drift_0 s0 x1 = some z) : bb_M l yX4_drift cX4_drift 3 (some .int) 6 D cs [.ref (h 5 0), .int x1] (some (.int z.1)) (wX4 cs h s0) (wX4 cs h z.2) := bb_mg (by decide) rfl (Nat.le_of_ble_eq_true rfl) rfl (fun X hl hD hcs C hR hr R => by
  subst hl
  subst hD
  subst hcs
  exact B_X4_drift_0 C hR hr h R hf)
/-! X4_undo: writes, level 2 -/
noncomputable def F_X4_undo_0 (s0 : bb_H) : Option (Int32 × bb_H) := if (((s0 1)).1 2) = 0 then (some ((-4 : Int32), s0)) else ((F_X1_bringBack_0 ((s0 1)) ((s0 0))).bind (fun q2 => some ((((va_up (va_up s0 1 q2.1) 0 q2.2) 1)).1 2, va_up (va_up s0 1 q2.1) 0 q2.2)))
set_option maxHeartbeats 4000000 in
set_option maxRecDepth 100000 in
theorem B_X4_undo_0 {X : bb_X} (C : bb_C X RX4 cX4_undo 1) (hR : bb_r X 2) (hr : X.meth.sig.returnType = (some .int)) (h : Nat → Nat → Nat) {z : (Int32 × bb_H)} (R : bb_R X (some (.int z.1)) (wX4 X.cs h z.2)) {s0 : bb_H} (hf : F_X4_undo_0 s0 = some z) : bb_Z X 1 (wX4 X.cs h s0) 0 [(0, .ref (h 5 0))] [] := by
  refine z_aload_n (pc := 0) (i := 0) C 0 dX4_undo_0 rfl rfl ?_
  refine z_get (pc := 1) (ci := 4) C (.ref (h 1 0)) bi_X4 rfl 0 1 (by decide) rfl bf_X4_19 rfl rfl dX4_undo_1 ?_
  refine z_get (pc := 4) (ci := 1) C (.int (((s0 1)).1 2)) bi_X1 rfl 8 2 (by decide) rfl bf_X4_146 rfl rfl dX4_undo_4 ?_
  refine z_if_ne (pc := 7) C 13 dX4_undo_7 (by decide) (fun hc1 => ?_) (fun hc1 => ?_)
  · have hf := bb_e hf hc1
    refine z_aload_n (pc := 13) (i := 0) C 0 dX4_undo_13 rfl rfl ?_
    refine z_get (pc := 14) (ci := 4) C (.ref (h 1 0)) bi_X4 rfl 0 1 (by decide) rfl bf_X4_19 rfl rfl dX4_undo_14 ?_
    refine z_aload_n (pc := 17) (i := 0) C 0 dX4_undo_17 rfl rfl ?_
    refine z_get (pc := 18) (ci := 4) C (.ref (h 0 0)) bi_X4 rfl 0 0 (by decide) rfl bf_X4_10 rfl rfl dX4_undo_18 ?_
    obtain ⟨q2, hq2, hf⟩ := bb_b_some hf
    refine z_callVv (pc := 21) (ci := 1) (q0 := 0) (As := [.ref (h 0 0)]) (rest := []) (ws' := wX4 X.cs h (va_up (va_up s0 1 q2.1) 0 q2.2)) C (hR.le (by decide)) (c_X1_bringBack (h 1) (h 0) hq2) (cut_X4_1_0 _ _ _ _ _) bv_X1_bringBack bm_X4_162 rfl rfl rfl rfl (Nat.le_of_ble_eq_true rfl) dX4_undo_21 ?_
    refine z_aload_n (pc := 24) (i := 0) C 0 dX4_undo_24 rfl rfl ?_
    refine z_get (pc := 25) (ci := 4) C (.ref (h 1 0)) bi_X4 rfl 0 1 (by decide) rfl bf_X4_19 rfl rfl dX4_undo_25 ?_
    refine z_get (pc := 28) (ci := 1) C (.int ((((va_up (va_up s0 1 q2.1) 0 q2.2) 1)).1 2)) bi_X1 rfl 8 2 (by decide) rfl bf_X4_146 rfl rfl dX4_undo_28 ?_
    obtain rfl := Option.some.inj hf
    exact z_iret (pc := 31) C hr R dX4_undo_31
  · have hf := bb_t hf hc1
    refine z_bipush (pc := 10) C (-4 : Int32) dX4_undo_10 (by decide) ?_
    obtain rfl := Option.some.inj hf
    exact z_iret (pc := 12) C hr R dX4_undo_12
theorem c_X4_undo {l : Launch} {D : va_G} {cs : Nat → ClassId} (h : Nat → Nat → Nat) {s0 : bb_H} {z : (Int32 × bb_H)} (hf : F_X4_undo_0 s0 = some z) : bb_M l yX4_undo cX4_undo 1 (some .int) 2 D cs [.ref (h 5 0)] (some (.int z.1)) (wX4 cs h s0) (wX4 cs h z.2) := bb_mg (by decide) rfl (Nat.le_of_ble_eq_true rfl) rfl (fun X hl hD hcs C hR hr R => by
  subst hl
  subst hD
  subst hcs
  exact B_X4_undo_0 C hR hr h R hf)
/-! X4_seed: writes, level 1 -/
noncomputable def F_X4_seed_0 (s0 : bb_H) (x1 : Int32) : Option (Int32 × bb_H) := if 0 ≤ x1 then (some (((s0 0)).1 8, va_up s0 0 (bb_sf ((s0 0)) 8 x1))) else (some ((-1 : Int32), s0))
set_option maxHeartbeats 4000000 in
set_option maxRecDepth 100000 in
theorem B_X4_seed_0 {X : bb_X} (C : bb_C X RX4 cX4_seed 3) (hR : bb_r X 1) (hr : X.meth.sig.returnType = (some .int)) (h : Nat → Nat → Nat) {z : (Int32 × bb_H)} (R : bb_R X (some (.int z.1)) (wX4 X.cs h z.2)) {s0 : bb_H} {x1 : Int32} (hf : F_X4_seed_0 s0 x1 = some z) : bb_Z X 3 (wX4 X.cs h s0) 0 [(0, .ref (h 5 0)), (1, .int x1)] [] := by
  refine z_iload_n (pc := 0) (i := 1) C 1 dX4_seed_0 rfl rfl ?_
  refine z_if_ge (pc := 1) C 6 dX4_seed_1 (by decide) (fun hc1 => ?_) (fun hc1 => ?_)
  · have hf := bb_t hf hc1
    refine z_aload_n (pc := 6) (i := 0) C 0 dX4_seed_6 rfl rfl ?_
    refine z_get (pc := 7) (ci := 4) C (.ref (h 0 0)) bi_X4 rfl 0 0 (by decide) rfl bf_X4_10 rfl rfl dX4_seed_7 ?_
    refine z_get (pc := 10) (ci := 0) C (.int (((s0 0)).1 8)) bi_X0 rfl 2 8 (by decide) rfl bf_X4_165 rfl rfl dX4_seed_10 ?_
    refine z_istore_n (pc := 13) (i := 2) (lv' := [(2, .int (((s0 0)).1 8)), (0, .ref (h 5 0)), (1, .int x1)]) C dX4_seed_13 rfl (by decide) rfl ?_
    refine z_aload_n (pc := 14) (i := 0) C 1 dX4_seed_14 rfl rfl ?_
    refine z_get (pc := 15) (ci := 4) C (.ref (h 0 0)) bi_X4 rfl 0 0 (by decide) rfl bf_X4_10 rfl rfl dX4_seed_15 ?_
    refine z_iload_n (pc := 18) (i := 1) C 2 dX4_seed_18 rfl rfl ?_
    refine z_put (pc := 19) (ci := 0) (ty := .int) (ws' := wX4 X.cs h (va_up s0 0 (bb_sf ((s0 0)) 8 x1))) C bi_X0 tyX0_ok nmX0 rfl 2 8 (by decide) rfl bf_X4_165 rfl rfl rfl rfl rfl (Nat.le_of_ble_eq_true rfl) rfl dX4_seed_19 ?_
    refine z_iload_n (pc := 22) (i := 2) C 0 dX4_seed_22 rfl rfl ?_
    obtain rfl := Option.some.inj hf
    exact z_iret (pc := 23) C hr R dX4_seed_23
  · have hf := bb_e hf hc1
    refine z_iconst (pc := 4) C (-1 : Int32) dX4_seed_4 (by decide) ?_
    obtain rfl := Option.some.inj hf
    exact z_iret (pc := 5) C hr R dX4_seed_5
theorem c_X4_seed {l : Launch} {D : va_G} {cs : Nat → ClassId} (h : Nat → Nat → Nat) {s0 : bb_H} {x1 : Int32} {z : (Int32 × bb_H)} (hf : F_X4_seed_0 s0 x1 = some z) : bb_M l yX4_seed cX4_seed 3 (some .int) 1 D cs [.ref (h 5 0), .int x1] (some (.int z.1)) (wX4 cs h s0) (wX4 cs h z.2) := bb_mg (by decide) rfl (Nat.le_of_ble_eq_true rfl) rfl (fun X hl hD hcs C hR hr R => by
  subst hl
  subst hD
  subst hcs
  exact B_X4_seed_0 C hR hr h R hf)
/-! X4_ahead: writes, level 6 -/
noncomputable def F_X4_ahead_19 (s0 : bb_H) : Option (Int32 × bb_H) := some ((-1 : Int32), s0)
set_option maxHeartbeats 4000000 in
set_option maxRecDepth 100000 in
theorem B_X4_ahead_19 {X : bb_X} (C : bb_C X RX4 cX4_ahead 4) (hR : bb_r X 6) (hr : X.meth.sig.returnType = (some .int)) (h : Nat → Nat → Nat) {z : (Int32 × bb_H)} (R : bb_R X (some (.int z.1)) (wX4 X.cs h z.2)) {s0 : bb_H} (hf : F_X4_ahead_19 s0 = some z) : bb_Z X 4 (wX4 X.cs h s0) 19 [] [] := by
  refine z_iconst (pc := 19) C (-1 : Int32) dX4_ahead_19 (by decide) ?_
  obtain rfl := Option.some.inj hf
  exact z_iret (pc := 20) C hr R dX4_ahead_20
noncomputable def G_X4_ahead_34 (k34 : bb_H → Int32 → Int32 → Int32 → Option (Int32 × bb_H)) (s0 : bb_H) (x1 : Int32) (x2 : Int32) (x3 : Int32) : Option (Int32 × bb_H) := if x1 ≤ x3 then (if x2 = 0 then (some (((s0 2)).1 3, s0)) else (if x2 = 1 then (some (((s0 2)).1 4, s0)) else (if x2 = 2 then (some (((s0 2)).1 6, s0)) else (some (((s0 2)).1 7, s0))))) else ((F_X0_pass_0 ((s0 2))).bind (fun q5 => k34 (va_up s0 2 q5.2) x1 x2 (x3 + 1)))
noncomputable def F_X4_ahead_34  : Nat → bb_H → Int32 → Int32 → Int32 → Option (Int32 × bb_H)
  | 0, _, _, _, _ => none
  | n + 1, s0, x1, x2, x3 => G_X4_ahead_34  (F_X4_ahead_34  n) s0 x1 x2 x3
set_option maxHeartbeats 4000000 in
set_option maxRecDepth 100000 in
theorem A_X4_ahead_34 {X : bb_X} (C : bb_C X RX4 cX4_ahead 4) (hR : bb_r X 6) (hr : X.meth.sig.returnType = (some .int)) (h : Nat → Nat → Nat) {z : (Int32 × bb_H)} (R : bb_R X (some (.int z.1)) (wX4 X.cs h z.2)) {k34 : bb_H → Int32 → Int32 → Int32 → Option (Int32 × bb_H)} (hk34 : ∀ (s0 : bb_H) (x1 : Int32) (x2 : Int32) (x3 : Int32), k34 s0 x1 x2 x3 = some z → bb_Z X 4 (wX4 X.cs h s0) 34 [(0, .ref (h 5 0)), (1, .int x1), (2, .int x2), (3, .int x3)] []) {s0 : bb_H} {x1 : Int32} {x2 : Int32} {x3 : Int32} (hf : G_X4_ahead_34 k34 s0 x1 x2 x3 = some z) : bb_Z X 4 (wX4 X.cs h s0) 34 [(0, .ref (h 5 0)), (1, .int x1), (2, .int x2), (3, .int x3)] [] := by
  refine z_iload_n (pc := 34) (i := 3) C 3 dX4_ahead_34 rfl rfl ?_
  refine z_iload_n (pc := 35) (i := 1) C 1 dX4_ahead_35 rfl rfl ?_
  refine z_icmp_ge (pc := 36) C 53 dX4_ahead_36 (by decide) (fun hc1 => ?_) (fun hc1 => ?_)
  · have hf := bb_t hf hc1
    refine z_iload_n (pc := 53) (i := 2) C 2 dX4_ahead_53 rfl rfl ?_
    by_cases hc2 : x2 = 0
    · have hf := bb_t hf hc2
      refine z_tabIn (pc := 54) C 80 (0 : Int32) dX4_ahead_54 hc2 (by decide) (by decide) rfl (by decide) ?_
      refine z_aload_n (pc := 80) (i := 0) C 0 dX4_ahead_80 rfl rfl ?_
      refine z_get (pc := 81) (ci := 4) C (.ref (h 2 0)) bi_X4 rfl 0 2 (by decide) rfl bf_X4_23 rfl rfl dX4_ahead_81 ?_
      refine z_get (pc := 84) (ci := 0) C (.int (((s0 2)).1 3)) bi_X0 rfl 18 3 (by decide) rfl bf_X4_128 rfl rfl dX4_ahead_84 ?_
      obtain rfl := Option.some.inj hf
      exact z_iret (pc := 87) C hr R dX4_ahead_87
    · have hf := bb_e hf hc2
      by_cases hc3 : x2 = 1
      · have hf := bb_t hf hc3
        refine z_tabIn (pc := 54) C 88 (1 : Int32) dX4_ahead_54 hc3 (by decide) (by decide) rfl (by decide) ?_
        refine z_aload_n (pc := 88) (i := 0) C 0 dX4_ahead_88 rfl rfl ?_
        refine z_get (pc := 89) (ci := 4) C (.ref (h 2 0)) bi_X4 rfl 0 2 (by decide) rfl bf_X4_23 rfl rfl dX4_ahead_89 ?_
        refine z_get (pc := 92) (ci := 0) C (.int (((s0 2)).1 4)) bi_X0 rfl 18 4 (by decide) rfl bf_X4_134 rfl rfl dX4_ahead_92 ?_
        obtain rfl := Option.some.inj hf
        exact z_iret (pc := 95) C hr R dX4_ahead_95
      · have hf := bb_e hf hc3
        by_cases hc4 : x2 = 2
        · have hf := bb_t hf hc4
          refine z_tabIn (pc := 54) C 96 (2 : Int32) dX4_ahead_54 hc4 (by decide) (by decide) rfl (by decide) ?_
          refine z_aload_n (pc := 96) (i := 0) C 0 dX4_ahead_96 rfl rfl ?_
          refine z_get (pc := 97) (ci := 4) C (.ref (h 2 0)) bi_X4 rfl 0 2 (by decide) rfl bf_X4_23 rfl rfl dX4_ahead_97 ?_
          refine z_get (pc := 100) (ci := 0) C (.int (((s0 2)).1 6)) bi_X0 rfl 18 6 (by decide) rfl bf_X4_137 rfl rfl dX4_ahead_100 ?_
          obtain rfl := Option.some.inj hf
          exact z_iret (pc := 103) C hr R dX4_ahead_103
        · have hf := bb_e hf hc4
          refine z_tabOut (pc := 54) C 104 dX4_ahead_54 (by have a0 := lv_neT hc2 (show (0 : Int32).toInt = 0 by decide); have a1 := lv_neT hc3 (show (1 : Int32).toInt = 1 by decide); have a2 := lv_neT hc4 (show (2 : Int32).toInt = 2 by decide); omega) (by decide) ?_
          refine z_aload_n (pc := 104) (i := 0) C 0 dX4_ahead_104 rfl rfl ?_
          refine z_get (pc := 105) (ci := 4) C (.ref (h 2 0)) bi_X4 rfl 0 2 (by decide) rfl bf_X4_23 rfl rfl dX4_ahead_105 ?_
          refine z_get (pc := 108) (ci := 0) C (.int (((s0 2)).1 7)) bi_X0 rfl 18 7 (by decide) rfl bf_X4_140 rfl rfl dX4_ahead_108 ?_
          obtain rfl := Option.some.inj hf
          exact z_iret (pc := 111) C hr R dX4_ahead_111
  · have hf := bb_e hf hc1
    refine z_aload_n (pc := 39) (i := 0) C 0 dX4_ahead_39 rfl rfl ?_
    refine z_get (pc := 40) (ci := 4) C (.ref (h 2 0)) bi_X4 rfl 0 2 (by decide) rfl bf_X4_23 rfl rfl dX4_ahead_40 ?_
    obtain ⟨q5, hq5, hf⟩ := bb_b_some hf
    refine z_callVi (pc := 43) (ci := 0) (q0 := 0) (As := []) (rest := []) (ws' := wX4 X.cs h (va_up s0 2 q5.2)) C (hR.le (by decide)) (c_X0_pass (h 2) hq5) (cut_X4_2 _ _ _ _) bv_X0_pass bm_X4_152 rfl rfl rfl rfl (Nat.le_of_ble_eq_true rfl) dX4_ahead_43 ?_
    refine z_pop (pc := 46) C dX4_ahead_46 rfl ?_
    refine z_iinc (pc := 47) (lv' := [(3, .int (x3 + 1)), (0, .ref (h 5 0)), (1, .int x1), (2, .int x2)]) C (x3 + 1) 3 dX4_ahead_47 rfl rfl (by decide) rfl ?_
    refine z_goto (pc := 50) C 34 dX4_ahead_50 (by decide) ?_
    refine z_lv [1, 2, 3, 0] rfl ?_
    exact hk34 _ _ _ _ hf
theorem B_X4_ahead_34 {X : bb_X} (C : bb_C X RX4 cX4_ahead 4) (hR : bb_r X 6) (hr : X.meth.sig.returnType = (some .int)) (h : Nat → Nat → Nat) {z : (Int32 × bb_H)} (R : bb_R X (some (.int z.1)) (wX4 X.cs h z.2)) : ∀ (n : Nat) (s0 : bb_H) (x1 : Int32) (x2 : Int32) (x3 : Int32), F_X4_ahead_34  n s0 x1 x2 x3 = some z → bb_Z X 4 (wX4 X.cs h s0) 34 [(0, .ref (h 5 0)), (1, .int x1), (2, .int x2), (3, .int x3)] [] := by
  intro n
  induction n with
  | zero =>
    intro s0 x1 x2 x3 hf
    cases hf
  | succ n ih =>
    intro s0 x1 x2 x3 hf
    exact A_X4_ahead_34 C hR hr h R  ih hf
noncomputable def F_X4_ahead_0 (s0 : bb_H) (x1 : Int32) (x2 : Int32) : Option (Int32 × bb_H) := (F_X4_outside_0 x1 ((0 : Int32)) ((60 : Int32))).bind (fun q1 => if q1 = 0 then ((F_X4_outside_0 x2 ((0 : Int32)) ((3 : Int32))).bind (fun q3 => if q3 = 0 then ((F_X0_take_0 ((s0 2)) ((s0 0))).bind (fun q5 => F_X4_ahead_34 bb_N (va_up (va_up s0 2 q5.1) 0 q5.2) x1 x2 ((0 : Int32)))) else (F_X4_ahead_19 s0))) else (F_X4_ahead_19 s0))
set_option maxHeartbeats 4000000 in
set_option maxRecDepth 100000 in
theorem B_X4_ahead_0 {X : bb_X} (C : bb_C X RX4 cX4_ahead 4) (hR : bb_r X 6) (hr : X.meth.sig.returnType = (some .int)) (h : Nat → Nat → Nat) {z : (Int32 × bb_H)} (R : bb_R X (some (.int z.1)) (wX4 X.cs h z.2)) {s0 : bb_H} {x1 : Int32} {x2 : Int32} (hf : F_X4_ahead_0 s0 x1 x2 = some z) : bb_Z X 4 (wX4 X.cs h s0) 0 [(0, .ref (h 5 0)), (1, .int x1), (2, .int x2)] [] := by
  refine z_iload_n (pc := 0) (i := 1) C 1 dX4_ahead_0 rfl rfl ?_
  refine z_iconst (pc := 1) C (0 : Int32) dX4_ahead_1 (by decide) ?_
  refine z_bipush (pc := 2) C (60 : Int32) dX4_ahead_2 (by decide) ?_
  obtain ⟨q1, hq1, hf⟩ := bb_b_some hf
  refine z_callSi (pc := 4) (As := [.int x1, .int ((0 : Int32)), .int ((60 : Int32))]) (rest := []) C (hR.le (by decide)) (c_X4_outside hq1) (bb_cut_none _) bv_X4_outside bm_X4_46 rfl rfl (Nat.le_of_ble_eq_true rfl) dX4_ahead_4 ?_
  refine z_if_ne (pc := 7) C 19 dX4_ahead_7 (by decide) (fun hc2 => ?_) (fun hc2 => ?_)
  · have hf := bb_e hf hc2
    refine z_lv [] rfl ?_
    exact B_X4_ahead_19 C hR hr h R  hf
  · have hf := bb_t hf hc2
    refine z_iload_n (pc := 10) (i := 2) C 2 dX4_ahead_10 rfl rfl ?_
    refine z_iconst (pc := 11) C (0 : Int32) dX4_ahead_11 (by decide) ?_
    refine z_iconst (pc := 12) C (3 : Int32) dX4_ahead_12 (by decide) ?_
    obtain ⟨q3, hq3, hf⟩ := bb_b_some hf
    refine z_callSi (pc := 13) (As := [.int x2, .int ((0 : Int32)), .int ((3 : Int32))]) (rest := []) C (hR.le (by decide)) (c_X4_outside hq3) (bb_cut_none _) bv_X4_outside bm_X4_46 rfl rfl (Nat.le_of_ble_eq_true rfl) dX4_ahead_13 ?_
    refine z_if_eq (pc := 16) C 21 dX4_ahead_16 (by decide) (fun hc4 => ?_) (fun hc4 => ?_)
    · have hf := bb_t hf hc4
      refine z_aload_n (pc := 21) (i := 0) C 0 dX4_ahead_21 rfl rfl ?_
      refine z_get (pc := 22) (ci := 4) C (.ref (h 2 0)) bi_X4 rfl 0 2 (by decide) rfl bf_X4_23 rfl rfl dX4_ahead_22 ?_
      refine z_aload_n (pc := 25) (i := 0) C 0 dX4_ahead_25 rfl rfl ?_
      refine z_get (pc := 26) (ci := 4) C (.ref (h 0 0)) bi_X4 rfl 0 0 (by decide) rfl bf_X4_10 rfl rfl dX4_ahead_26 ?_
      obtain ⟨q5, hq5, hf⟩ := bb_b_some hf
      refine z_callVv (pc := 29) (ci := 0) (q0 := 0) (As := [.ref (h 0 0)]) (rest := []) (ws' := wX4 X.cs h (va_up (va_up s0 2 q5.1) 0 q5.2)) C (hR.le (by decide)) (c_X0_take (h 2) (h 0) hq5) (cut_X4_2_0 _ _ _ _ _) bv_X0_take bm_X4_111 rfl rfl rfl rfl (Nat.le_of_ble_eq_true rfl) dX4_ahead_29 ?_
      refine z_iconst (pc := 32) C (0 : Int32) dX4_ahead_32 (by decide) ?_
      refine z_istore_n (pc := 33) (i := 3) (lv' := [(3, .int ((0 : Int32))), (0, .ref (h 5 0)), (1, .int x1), (2, .int x2)]) C dX4_ahead_33 rfl (by decide) rfl ?_
      refine z_lv [1, 2, 3, 0] rfl ?_
      exact B_X4_ahead_34 C hR hr h R  bb_N _ _ _ _ hf
    · have hf := bb_e hf hc4
      refine z_lv [] rfl ?_
      exact B_X4_ahead_19 C hR hr h R  hf
theorem c_X4_ahead {l : Launch} {D : va_G} {cs : Nat → ClassId} (h : Nat → Nat → Nat) {s0 : bb_H} {x1 : Int32} {x2 : Int32} {z : (Int32 × bb_H)} (hf : F_X4_ahead_0 s0 x1 x2 = some z) : bb_M l yX4_ahead cX4_ahead 4 (some .int) 6 D cs [.ref (h 5 0), .int x1, .int x2] (some (.int z.1)) (wX4 cs h s0) (wX4 cs h z.2) := bb_mg (by decide) rfl (Nat.le_of_ble_eq_true rfl) rfl (fun X hl hD hcs C hR hr R => by
  subst hl
  subst hD
  subst hcs
  exact B_X4_ahead_0 C hR hr h R hf)
/-! X4_next: writes, level 7 -/
noncomputable def F_X4_next_40 (s0 : bb_H) (x2 : Int32) : Option (Int32 × bb_H) := some (x2, s0)
set_option maxHeartbeats 4000000 in
set_option maxRecDepth 100000 in
theorem B_X4_next_40 {X : bb_X} (C : bb_C X RX4 cX4_next 3) (hR : bb_r X 7) (hr : X.meth.sig.returnType = (some .int)) (h : Nat → Nat → Nat) {z : (Int32 × bb_H)} (R : bb_R X (some (.int z.1)) (wX4 X.cs h z.2)) {s0 : bb_H} {x2 : Int32} (hf : F_X4_next_40 s0 x2 = some z) : bb_Z X 3 (wX4 X.cs h s0) 40 [(2, .int x2)] [] := by
  refine z_iload_n (pc := 40) (i := 2) C 0 dX4_next_40 rfl rfl ?_
  obtain rfl := Option.some.inj hf
  exact z_iret (pc := 41) C hr R dX4_next_41
noncomputable def F_X4_next_80 (s0 : bb_H) (y0 : Int32) : Option (Int32 × bb_H) := some (y0, s0)
set_option maxHeartbeats 4000000 in
set_option maxRecDepth 100000 in
theorem B_X4_next_80 {X : bb_X} (C : bb_C X RX4 cX4_next 3) (hR : bb_r X 7) (hr : X.meth.sig.returnType = (some .int)) (h : Nat → Nat → Nat) {z : (Int32 × bb_H)} (R : bb_R X (some (.int z.1)) (wX4 X.cs h z.2)) {s0 : bb_H} {y0 : Int32} (hf : F_X4_next_80 s0 y0 = some z) : bb_Z X 3 (wX4 X.cs h s0) 80 [] [.int y0] := by
  obtain rfl := Option.some.inj hf
  exact z_iret (pc := 80) C hr R dX4_next_80
noncomputable def F_X4_next_0 (s0 : bb_H) (x1 : Int32) : Option (Int32 × bb_H) := (F_X4_outside_0 x1 ((0 : Int32)) ((2 : Int32))).bind (fun q1 => if q1 = 0 then ((F_X0_take_0 ((s0 2)) ((s0 0))).bind (fun q3 => (F_X0_passUntilCaught_0 (((va_up (va_up s0 2 q3.1) 0 q3.2) 2))).bind (fun q4 => if q4.1 = ((-4 : Int32)) then (F_X4_next_40 (va_up (va_up (va_up s0 2 q3.1) 0 q3.2) 2 q4.2) q4.1) else (if x1 = 0 then (F_X4_next_40 (va_up (va_up (va_up s0 2 q3.1) 0 q3.2) 2 q4.2) q4.1) else (if x1 = ((1 : Int32)) then (F_X4_next_80 (va_up (va_up (va_up s0 2 q3.1) 0 q3.2) 2 q4.2) (((((va_up (va_up (va_up s0 2 q3.1) 0 q3.2) 2 q4.2) 2)).1 5) - ((((va_up (va_up (va_up s0 2 q3.1) 0 q3.2) 2 q4.2) 0)).1 5))) else ((F_X0_feel_0 (((va_up (va_up (va_up s0 2 q3.1) 0 q3.2) 2 q4.2) 2)) q4.1).bind (fun q8 => (F_X0_namedBy_0 (((va_up (va_up (va_up s0 2 q3.1) 0 q3.2) 2 q4.2) 2)) q8).bind (fun q9 => F_X4_next_80 (va_up (va_up (va_up s0 2 q3.1) 0 q3.2) 2 q4.2) q9)))))))) else (some ((-1 : Int32), s0)))
set_option maxHeartbeats 4000000 in
set_option maxRecDepth 100000 in
theorem B_X4_next_0 {X : bb_X} (C : bb_C X RX4 cX4_next 3) (hR : bb_r X 7) (hr : X.meth.sig.returnType = (some .int)) (h : Nat → Nat → Nat) {z : (Int32 × bb_H)} (R : bb_R X (some (.int z.1)) (wX4 X.cs h z.2)) {s0 : bb_H} {x1 : Int32} (hf : F_X4_next_0 s0 x1 = some z) : bb_Z X 3 (wX4 X.cs h s0) 0 [(0, .ref (h 5 0)), (1, .int x1)] [] := by
  refine z_iload_n (pc := 0) (i := 1) C 1 dX4_next_0 rfl rfl ?_
  refine z_iconst (pc := 1) C (0 : Int32) dX4_next_1 (by decide) ?_
  refine z_iconst (pc := 2) C (2 : Int32) dX4_next_2 (by decide) ?_
  obtain ⟨q1, hq1, hf⟩ := bb_b_some hf
  refine z_callSi (pc := 3) (As := [.int x1, .int ((0 : Int32)), .int ((2 : Int32))]) (rest := []) C (hR.le (by decide)) (c_X4_outside hq1) (bb_cut_none _) bv_X4_outside bm_X4_46 rfl rfl (Nat.le_of_ble_eq_true rfl) dX4_next_3 ?_
  refine z_if_eq (pc := 6) C 11 dX4_next_6 (by decide) (fun hc2 => ?_) (fun hc2 => ?_)
  · have hf := bb_t hf hc2
    refine z_aload_n (pc := 11) (i := 0) C 0 dX4_next_11 rfl rfl ?_
    refine z_get (pc := 12) (ci := 4) C (.ref (h 2 0)) bi_X4 rfl 0 2 (by decide) rfl bf_X4_23 rfl rfl dX4_next_12 ?_
    refine z_aload_n (pc := 15) (i := 0) C 0 dX4_next_15 rfl rfl ?_
    refine z_get (pc := 16) (ci := 4) C (.ref (h 0 0)) bi_X4 rfl 0 0 (by decide) rfl bf_X4_10 rfl rfl dX4_next_16 ?_
    obtain ⟨q3, hq3, hf⟩ := bb_b_some hf
    refine z_callVv (pc := 19) (ci := 0) (q0 := 0) (As := [.ref (h 0 0)]) (rest := []) (ws' := wX4 X.cs h (va_up (va_up s0 2 q3.1) 0 q3.2)) C (hR.le (by decide)) (c_X0_take (h 2) (h 0) hq3) (cut_X4_2_0 _ _ _ _ _) bv_X0_take bm_X4_111 rfl rfl rfl rfl (Nat.le_of_ble_eq_true rfl) dX4_next_19 ?_
    refine z_aload_n (pc := 22) (i := 0) C 0 dX4_next_22 rfl rfl ?_
    refine z_get (pc := 23) (ci := 4) C (.ref (h 2 0)) bi_X4 rfl 0 2 (by decide) rfl bf_X4_23 rfl rfl dX4_next_23 ?_
    obtain ⟨q4, hq4, hf⟩ := bb_b_some hf
    refine z_callVi (pc := 26) (ci := 0) (q0 := 0) (As := []) (rest := []) (ws' := wX4 X.cs h (va_up (va_up (va_up s0 2 q3.1) 0 q3.2) 2 q4.2)) C (hR.le (by decide)) (c_X0_passUntilCaught (h 2) hq4) (cut_X4_2 _ _ _ _) bv_X0_passUntilCaught bm_X4_168 rfl rfl rfl rfl (Nat.le_of_ble_eq_true rfl) dX4_next_26 ?_
    refine z_istore_n (pc := 29) (i := 2) (lv' := [(2, .int q4.1), (0, .ref (h 5 0)), (1, .int x1)]) C dX4_next_29 rfl (by decide) rfl ?_
    refine z_iload_n (pc := 30) (i := 2) C 0 dX4_next_30 rfl rfl ?_
    refine z_bipush (pc := 31) C (-4 : Int32) dX4_next_31 (by decide) ?_
    refine z_icmp_eq (pc := 33) C 40 dX4_next_33 (by decide) (fun hc5 => ?_) (fun hc5 => ?_)
    · have hf := bb_t hf hc5
      refine z_lv [0] rfl ?_
      exact B_X4_next_40 C hR hr h R  hf
    · have hf := bb_e hf hc5
      refine z_iload_n (pc := 36) (i := 1) C 2 dX4_next_36 rfl rfl ?_
      refine z_if_ne (pc := 37) C 42 dX4_next_37 (by decide) (fun hc6 => ?_) (fun hc6 => ?_)
      · have hf := bb_e hf hc6
        refine z_iload_n (pc := 42) (i := 1) C 2 dX4_next_42 rfl rfl ?_
        refine z_iconst (pc := 43) C (1 : Int32) dX4_next_43 (by decide) ?_
        refine z_icmp_ne (pc := 44) C 65 dX4_next_44 (by decide) (fun hc7 => ?_) (fun hc7 => ?_)
        · have hf := bb_e hf hc7
          refine z_aload_n (pc := 65) (i := 0) C 1 dX4_next_65 rfl rfl ?_
          refine z_get (pc := 66) (ci := 4) C (.ref (h 2 0)) bi_X4 rfl 0 2 (by decide) rfl bf_X4_23 rfl rfl dX4_next_66 ?_
          refine z_aload_n (pc := 69) (i := 0) C 1 dX4_next_69 rfl rfl ?_
          refine z_get (pc := 70) (ci := 4) C (.ref (h 2 0)) bi_X4 rfl 0 2 (by decide) rfl bf_X4_23 rfl rfl dX4_next_70 ?_
          refine z_iload_n (pc := 73) (i := 2) C 0 dX4_next_73 rfl rfl ?_
          obtain ⟨q8, hq8, hf⟩ := bb_b_some hf
          refine z_callVi (pc := 74) (ci := 0) (q0 := 0) (As := [.int q4.1]) (rest := [.ref (h 2 0)]) C (hR.le (by decide)) (c_X0_feel (h 2) hq8) (cutp_X4_2 _ _ _) bv_X0_feel bm_X4_99 rfl rfl rfl rfl (Nat.le_of_ble_eq_true rfl) dX4_next_74 ?_
          obtain ⟨q9, hq9, hf⟩ := bb_b_some hf
          refine z_callVi (pc := 77) (ci := 0) (q0 := 0) (As := [.int q8]) (rest := []) C (hR.le (by decide)) (c_X0_namedBy (h 2) hq9) (cutp_X4_2 _ _ _) bv_X0_namedBy bm_X4_102 rfl rfl rfl rfl (Nat.le_of_ble_eq_true rfl) dX4_next_77 ?_
          refine z_lv [] rfl ?_
          exact B_X4_next_80 C hR hr h R  hf
        · have hf := bb_t hf hc7
          refine z_aload_n (pc := 47) (i := 0) C 1 dX4_next_47 rfl rfl ?_
          refine z_get (pc := 48) (ci := 4) C (.ref (h 2 0)) bi_X4 rfl 0 2 (by decide) rfl bf_X4_23 rfl rfl dX4_next_48 ?_
          refine z_get (pc := 51) (ci := 0) C (.int ((((va_up (va_up (va_up s0 2 q3.1) 0 q3.2) 2 q4.2) 2)).1 5)) bi_X0 rfl 18 5 (by decide) rfl bf_X4_131 rfl rfl dX4_next_51 ?_
          refine z_aload_n (pc := 54) (i := 0) C 1 dX4_next_54 rfl rfl ?_
          refine z_get (pc := 55) (ci := 4) C (.ref (h 0 0)) bi_X4 rfl 0 0 (by decide) rfl bf_X4_10 rfl rfl dX4_next_55 ?_
          refine z_get (pc := 58) (ci := 0) C (.int ((((va_up (va_up (va_up s0 2 q3.1) 0 q3.2) 2 q4.2) 0)).1 5)) bi_X0 rfl 2 5 (by decide) rfl bf_X4_131 rfl rfl dX4_next_58 ?_
          refine z_isub (pc := 61) C dX4_next_61 ?_
          refine z_goto (pc := 62) C 80 dX4_next_62 (by decide) ?_
          refine z_lv [] rfl ?_
          exact B_X4_next_80 C hR hr h R  hf
      · have hf := bb_t hf hc6
        refine z_lv [0] rfl ?_
        exact B_X4_next_40 C hR hr h R  hf
  · have hf := bb_e hf hc2
    refine z_iconst (pc := 9) C (-1 : Int32) dX4_next_9 (by decide) ?_
    obtain rfl := Option.some.inj hf
    exact z_iret (pc := 10) C hr R dX4_next_10
theorem c_X4_next {l : Launch} {D : va_G} {cs : Nat → ClassId} (h : Nat → Nat → Nat) {s0 : bb_H} {x1 : Int32} {z : (Int32 × bb_H)} (hf : F_X4_next_0 s0 x1 = some z) : bb_M l yX4_next cX4_next 3 (some .int) 7 D cs [.ref (h 5 0), .int x1] (some (.int z.1)) (wX4 cs h s0) (wX4 cs h z.2) := bb_mg (by decide) rfl (Nat.le_of_ble_eq_true rfl) rfl (fun X hl hD hcs C hR hr R => by
  subst hl
  subst hD
  subst hcs
  exact B_X4_next_0 C hR hr h R hf)
/-! X4_stand: writes, level 7 -/
noncomputable def F_X4_stand_17 (s0 : bb_H) : Option (Int32 × bb_H) := some ((-1 : Int32), s0)
set_option maxHeartbeats 4000000 in
set_option maxRecDepth 100000 in
theorem B_X4_stand_17 {X : bb_X} (C : bb_C X RX4 cX4_stand 7) (hR : bb_r X 7) (hr : X.meth.sig.returnType = (some .int)) (h : Nat → Nat → Nat) {z : (Int32 × bb_H)} (R : bb_R X (some (.int z.1)) (wX4 X.cs h z.2)) {s0 : bb_H} (hf : F_X4_stand_17 s0 = some z) : bb_Z X 7 (wX4 X.cs h s0) 17 [] [] := by
  refine z_iconst (pc := 17) C (-1 : Int32) dX4_stand_17 (by decide) ?_
  obtain rfl := Option.some.inj hf
  exact z_iret (pc := 18) C hr R dX4_stand_18
noncomputable def F_X4_stand_117 (s0 : bb_H) (y0 : Int32) : Option (Int32 × bb_H) := some (y0, s0)
set_option maxHeartbeats 4000000 in
set_option maxRecDepth 100000 in
theorem B_X4_stand_117 {X : bb_X} (C : bb_C X RX4 cX4_stand 7) (hR : bb_r X 7) (hr : X.meth.sig.returnType = (some .int)) (h : Nat → Nat → Nat) {z : (Int32 × bb_H)} (R : bb_R X (some (.int z.1)) (wX4 X.cs h z.2)) {s0 : bb_H} {y0 : Int32} (hf : F_X4_stand_117 s0 y0 = some z) : bb_Z X 7 (wX4 X.cs h s0) 117 [] [.int y0] := by
  obtain rfl := Option.some.inj hf
  exact z_iret (pc := 117) C hr R dX4_stand_117
noncomputable def F_X4_stand_101 (k41 : bb_H → Int32 → Int32 → Int32 → Int32 → Int32 → Option (Int32 × bb_H)) (s0 : bb_H) (x1 : Int32) (x2 : Int32) (x3 : Int32) (x4 : Int32) (x5 : Int32) : Option (Int32 × bb_H) := k41 s0 x1 x2 x3 x4 (x5 + 1)
set_option maxHeartbeats 4000000 in
set_option maxRecDepth 100000 in
theorem B_X4_stand_101 {X : bb_X} (C : bb_C X RX4 cX4_stand 7) (hR : bb_r X 7) (hr : X.meth.sig.returnType = (some .int)) (h : Nat → Nat → Nat) {z : (Int32 × bb_H)} (R : bb_R X (some (.int z.1)) (wX4 X.cs h z.2)) {k41 : bb_H → Int32 → Int32 → Int32 → Int32 → Int32 → Option (Int32 × bb_H)} (hk41 : ∀ (s0 : bb_H) (x1 : Int32) (x2 : Int32) (x3 : Int32) (x4 : Int32) (x5 : Int32), k41 s0 x1 x2 x3 x4 x5 = some z → bb_Z X 7 (wX4 X.cs h s0) 41 [(0, .ref (h 5 0)), (1, .int x1), (2, .int x2), (3, .int x3), (4, .int x4), (5, .int x5)] []) {s0 : bb_H} {x1 : Int32} {x2 : Int32} {x3 : Int32} {x4 : Int32} {x5 : Int32} (hf : F_X4_stand_101 k41 s0 x1 x2 x3 x4 x5 = some z) : bb_Z X 7 (wX4 X.cs h s0) 101 [(0, .ref (h 5 0)), (1, .int x1), (2, .int x2), (3, .int x3), (4, .int x4), (5, .int x5)] [] := by
  refine z_iinc (pc := 101) (lv' := [(5, .int (x5 + 1)), (0, .ref (h 5 0)), (1, .int x1), (2, .int x2), (3, .int x3), (4, .int x4)]) C (x5 + 1) 5 dX4_stand_101 rfl rfl (by decide) rfl ?_
  refine z_goto (pc := 104) C 41 dX4_stand_104 (by decide) ?_
  refine z_lv [1, 2, 3, 4, 5, 0] rfl ?_
  exact hk41 _ _ _ _ _ _ hf
noncomputable def F_X4_stand_75 (k41 : bb_H → Int32 → Int32 → Int32 → Int32 → Int32 → Option (Int32 × bb_H)) (s0 : bb_H) (x1 : Int32) (x2 : Int32) (x3 : Int32) (x4 : Int32) (x5 : Int32) : Option (Int32 × bb_H) := (F_X0_behindHowMany_0 ((s0 2)) x1 ((60 : Int32))).bind (fun q1 => if q1.1 ≤ x4 then (F_X4_stand_101 k41 (va_up s0 2 q1.2) x1 x2 x3 x4 x5) else (F_X4_stand_101 k41 (va_up s0 2 q1.2) x1 x2 x5 q1.1 x5))
set_option maxHeartbeats 4000000 in
set_option maxRecDepth 100000 in
theorem B_X4_stand_75 {X : bb_X} (C : bb_C X RX4 cX4_stand 7) (hR : bb_r X 7) (hr : X.meth.sig.returnType = (some .int)) (h : Nat → Nat → Nat) {z : (Int32 × bb_H)} (R : bb_R X (some (.int z.1)) (wX4 X.cs h z.2)) {k41 : bb_H → Int32 → Int32 → Int32 → Int32 → Int32 → Option (Int32 × bb_H)} (hk41 : ∀ (s0 : bb_H) (x1 : Int32) (x2 : Int32) (x3 : Int32) (x4 : Int32) (x5 : Int32), k41 s0 x1 x2 x3 x4 x5 = some z → bb_Z X 7 (wX4 X.cs h s0) 41 [(0, .ref (h 5 0)), (1, .int x1), (2, .int x2), (3, .int x3), (4, .int x4), (5, .int x5)] []) {s0 : bb_H} {x1 : Int32} {x2 : Int32} {x3 : Int32} {x4 : Int32} {x5 : Int32} (hf : F_X4_stand_75 k41 s0 x1 x2 x3 x4 x5 = some z) : bb_Z X 7 (wX4 X.cs h s0) 75 [(0, .ref (h 5 0)), (1, .int x1), (2, .int x2), (3, .int x3), (4, .int x4), (5, .int x5)] [] := by
  refine z_aload_n (pc := 75) (i := 0) C 0 dX4_stand_75 rfl rfl ?_
  refine z_get (pc := 76) (ci := 4) C (.ref (h 2 0)) bi_X4 rfl 0 2 (by decide) rfl bf_X4_23 rfl rfl dX4_stand_76 ?_
  refine z_iload_n (pc := 79) (i := 1) C 1 dX4_stand_79 rfl rfl ?_
  refine z_bipush (pc := 80) C (60 : Int32) dX4_stand_80 (by decide) ?_
  obtain ⟨q1, hq1, hf⟩ := bb_b_some hf
  refine z_callVi (pc := 82) (ci := 0) (q0 := 0) (As := [.int x1, .int ((60 : Int32))]) (rest := []) (ws' := wX4 X.cs h (va_up s0 2 q1.2)) C (hR.le (by decide)) (c_X0_behindHowMany (h 2) hq1) (cut_X4_2 _ _ _ _) bv_X0_behindHowMany bm_X4_171 rfl rfl rfl rfl (Nat.le_of_ble_eq_true rfl) dX4_stand_82 ?_
  refine z_istore (pc := 85) (lv' := [(6, .int q1.1), (0, .ref (h 5 0)), (1, .int x1), (2, .int x2), (3, .int x3), (4, .int x4), (5, .int x5)]) C dX4_stand_85 (by decide) rfl ?_
  refine z_iload (pc := 87) C 0 dX4_stand_87 rfl ?_
  refine z_iload (pc := 89) C 5 dX4_stand_89 rfl ?_
  refine z_icmp_le (pc := 91) C 101 dX4_stand_91 (by decide) (fun hc2 => ?_) (fun hc2 => ?_)
  · have hf := bb_t hf hc2
    refine z_lv [1, 2, 3, 4, 5, 6] rfl ?_
    exact B_X4_stand_101 C hR hr h R hk41 hf
  · have hf := bb_e hf hc2
    refine z_iload (pc := 94) C 0 dX4_stand_94 rfl ?_
    refine z_istore (pc := 96) (lv' := [(4, .int q1.1), (6, .int q1.1), (0, .ref (h 5 0)), (1, .int x1), (2, .int x2), (3, .int x3), (5, .int x5)]) C dX4_stand_96 (by decide) rfl ?_
    refine z_iload (pc := 98) C 6 dX4_stand_98 rfl ?_
    refine z_istore_n (pc := 100) (i := 3) (lv' := [(3, .int x5), (4, .int q1.1), (6, .int q1.1), (0, .ref (h 5 0)), (1, .int x1), (2, .int x2), (5, .int x5)]) C dX4_stand_100 rfl (by decide) rfl ?_
    refine z_lv [3, 4, 5, 0, 1, 6] rfl ?_
    exact B_X4_stand_101 C hR hr h R hk41 hf
noncomputable def G_X4_stand_41 (k41 : bb_H → Int32 → Int32 → Int32 → Int32 → Int32 → Option (Int32 × bb_H)) (s0 : bb_H) (x1 : Int32) (x2 : Int32) (x3 : Int32) (x4 : Int32) (x5 : Int32) : Option (Int32 × bb_H) := (F_X0_cells_0 ((s0 0))).bind (fun q1 => if q1 ≤ x5 then (if x2 = 0 then (F_X4_stand_117 s0 x3) else (F_X4_stand_117 s0 x4)) else ((F_X0_take_0 ((s0 2)) ((s0 0))).bind (fun q4 => bb_g (vp_in x1 6) (F_X4_stand_75 k41 (va_up (va_up (va_up s0 2 q4.1) 0 q4.2) 2 (bb_sA (((va_up (va_up s0 2 q4.1) 0 q4.2) 2)) 10 (upd ((((va_up (va_up s0 2 q4.1) 0 q4.2) 2)).2.1 10) x1.toNatClampNeg x5))) x1 x2 x3 x4 x5))))
noncomputable def F_X4_stand_41  : Nat → bb_H → Int32 → Int32 → Int32 → Int32 → Int32 → Option (Int32 × bb_H)
  | 0, _, _, _, _, _, _ => none
  | n + 1, s0, x1, x2, x3, x4, x5 => G_X4_stand_41  (F_X4_stand_41  n) s0 x1 x2 x3 x4 x5
set_option maxHeartbeats 4000000 in
set_option maxRecDepth 100000 in
theorem A_X4_stand_41 {X : bb_X} (C : bb_C X RX4 cX4_stand 7) (hR : bb_r X 7) (hr : X.meth.sig.returnType = (some .int)) (h : Nat → Nat → Nat) {z : (Int32 × bb_H)} (R : bb_R X (some (.int z.1)) (wX4 X.cs h z.2)) {k41 : bb_H → Int32 → Int32 → Int32 → Int32 → Int32 → Option (Int32 × bb_H)} (hk41 : ∀ (s0 : bb_H) (x1 : Int32) (x2 : Int32) (x3 : Int32) (x4 : Int32) (x5 : Int32), k41 s0 x1 x2 x3 x4 x5 = some z → bb_Z X 7 (wX4 X.cs h s0) 41 [(0, .ref (h 5 0)), (1, .int x1), (2, .int x2), (3, .int x3), (4, .int x4), (5, .int x5)] []) {s0 : bb_H} {x1 : Int32} {x2 : Int32} {x3 : Int32} {x4 : Int32} {x5 : Int32} (hf : G_X4_stand_41 k41 s0 x1 x2 x3 x4 x5 = some z) : bb_Z X 7 (wX4 X.cs h s0) 41 [(0, .ref (h 5 0)), (1, .int x1), (2, .int x2), (3, .int x3), (4, .int x4), (5, .int x5)] [] := by
  refine z_iload (pc := 41) C 5 dX4_stand_41 rfl ?_
  refine z_aload_n (pc := 43) (i := 0) C 0 dX4_stand_43 rfl rfl ?_
  refine z_get (pc := 44) (ci := 4) C (.ref (h 0 0)) bi_X4 rfl 0 0 (by decide) rfl bf_X4_10 rfl rfl dX4_stand_44 ?_
  obtain ⟨q1, hq1, hf⟩ := bb_b_some hf
  refine z_callVi (pc := 47) (ci := 0) (q0 := 0) (As := []) (rest := [.int x5]) C (hR.le (by decide)) (c_X0_cells (h 0) hq1) (cutp_X4_0 _ _ _) bv_X0_cells bm_X4_57 rfl rfl rfl rfl (Nat.le_of_ble_eq_true rfl) dX4_stand_47 ?_
  refine z_icmp_ge (pc := 50) C 107 dX4_stand_50 (by decide) (fun hc2 => ?_) (fun hc2 => ?_)
  · have hf := bb_t hf hc2
    refine z_iload_n (pc := 107) (i := 2) C 2 dX4_stand_107 rfl rfl ?_
    refine z_if_ne (pc := 108) C 115 dX4_stand_108 (by decide) (fun hc3 => ?_) (fun hc3 => ?_)
    · have hf := bb_e hf hc3
      refine z_iload (pc := 115) C 4 dX4_stand_115 rfl ?_
      refine z_lv [] rfl ?_
      exact B_X4_stand_117 C hR hr h R  hf
    · have hf := bb_t hf hc3
      refine z_iload_n (pc := 111) (i := 3) C 3 dX4_stand_111 rfl rfl ?_
      refine z_goto (pc := 112) C 117 dX4_stand_112 (by decide) ?_
      refine z_lv [] rfl ?_
      exact B_X4_stand_117 C hR hr h R  hf
  · have hf := bb_e hf hc2
    refine z_aload_n (pc := 53) (i := 0) C 0 dX4_stand_53 rfl rfl ?_
    refine z_get (pc := 54) (ci := 4) C (.ref (h 2 0)) bi_X4 rfl 0 2 (by decide) rfl bf_X4_23 rfl rfl dX4_stand_54 ?_
    refine z_aload_n (pc := 57) (i := 0) C 0 dX4_stand_57 rfl rfl ?_
    refine z_get (pc := 58) (ci := 4) C (.ref (h 0 0)) bi_X4 rfl 0 0 (by decide) rfl bf_X4_10 rfl rfl dX4_stand_58 ?_
    obtain ⟨q4, hq4, hf⟩ := bb_b_some hf
    refine z_callVv (pc := 61) (ci := 0) (q0 := 0) (As := [.ref (h 0 0)]) (rest := []) (ws' := wX4 X.cs h (va_up (va_up s0 2 q4.1) 0 q4.2)) C (hR.le (by decide)) (c_X0_take (h 2) (h 0) hq4) (cut_X4_2_0 _ _ _ _ _) bv_X0_take bm_X4_111 rfl rfl rfl rfl (Nat.le_of_ble_eq_true rfl) dX4_stand_61 ?_
    refine z_aload_n (pc := 64) (i := 0) C 0 dX4_stand_64 rfl rfl ?_
    refine z_get (pc := 65) (ci := 4) C (.ref (h 2 0)) bi_X4 rfl 0 2 (by decide) rfl bf_X4_23 rfl rfl dX4_stand_65 ?_
    refine z_get (pc := 68) (ci := 0) C (.ref (h 2 11)) bi_X0 rfl 18 10 (by decide) rfl bf_X4_77 rfl rfl dX4_stand_68 ?_
    refine z_iload_n (pc := 71) (i := 1) C 1 dX4_stand_71 rfl rfl ?_
    refine z_iload (pc := 72) C 5 dX4_stand_72 rfl ?_
    obtain ⟨hv5, hf⟩ := bb_g_some hf
    refine z_iast (pc := 74) (ws' := wX4 X.cs h (va_up (va_up (va_up s0 2 q4.1) 0 q4.2) 2 (bb_sA (((va_up (va_up s0 2 q4.1) 0 q4.2) 2)) 10 (upd ((((va_up (va_up s0 2 q4.1) 0 q4.2) 2)).2.1 10) x1.toNatClampNeg x5)))) C 20 0 (x1.toNatClampNeg) rfl rfl hv5 rfl rfl dX4_stand_74 ?_
    exact B_X4_stand_75 C hR hr h R hk41 hf
theorem B_X4_stand_41 {X : bb_X} (C : bb_C X RX4 cX4_stand 7) (hR : bb_r X 7) (hr : X.meth.sig.returnType = (some .int)) (h : Nat → Nat → Nat) {z : (Int32 × bb_H)} (R : bb_R X (some (.int z.1)) (wX4 X.cs h z.2)) : ∀ (n : Nat) (s0 : bb_H) (x1 : Int32) (x2 : Int32) (x3 : Int32) (x4 : Int32) (x5 : Int32), F_X4_stand_41  n s0 x1 x2 x3 x4 x5 = some z → bb_Z X 7 (wX4 X.cs h s0) 41 [(0, .ref (h 5 0)), (1, .int x1), (2, .int x2), (3, .int x3), (4, .int x4), (5, .int x5)] [] := by
  intro n
  induction n with
  | zero =>
    intro s0 x1 x2 x3 x4 x5 hf
    cases hf
  | succ n ih =>
    intro s0 x1 x2 x3 x4 x5 hf
    exact A_X4_stand_41 C hR hr h R  ih hf
noncomputable def F_X4_stand_0 (s0 : bb_H) (x1 : Int32) (x2 : Int32) : Option (Int32 × bb_H) := (F_X4_isNobody_0 s0 x1).bind (fun q1 => if q1 = 0 then ((F_X4_outside_0 x2 ((0 : Int32)) ((1 : Int32))).bind (fun q3 => if q3 = 0 then ((F_X0_isFree_0 ((s0 0)) x1).bind (fun q5 => if q5 = 0 then (some ((-2 : Int32), s0)) else (F_X4_stand_41 bb_N s0 x1 x2 ((0 : Int32)) ((0 : Int32)) ((0 : Int32))))) else (F_X4_stand_17 s0))) else (F_X4_stand_17 s0))
set_option maxHeartbeats 4000000 in
set_option maxRecDepth 100000 in
theorem B_X4_stand_0 {X : bb_X} (C : bb_C X RX4 cX4_stand 7) (hR : bb_r X 7) (hr : X.meth.sig.returnType = (some .int)) (h : Nat → Nat → Nat) {z : (Int32 × bb_H)} (R : bb_R X (some (.int z.1)) (wX4 X.cs h z.2)) {s0 : bb_H} {x1 : Int32} {x2 : Int32} (hf : F_X4_stand_0 s0 x1 x2 = some z) : bb_Z X 7 (wX4 X.cs h s0) 0 [(0, .ref (h 5 0)), (1, .int x1), (2, .int x2)] [] := by
  refine z_aload_n (pc := 0) (i := 0) C 0 dX4_stand_0 rfl rfl ?_
  refine z_iload_n (pc := 1) (i := 1) C 1 dX4_stand_1 rfl rfl ?_
  obtain ⟨q1, hq1, hf⟩ := bb_b_some hf
  refine z_callVi (pc := 2) (ci := 4) (q0 := 0) (As := [.int x1]) (rest := []) C (hR.le (by decide)) (c_X4_isNobody h hq1) (bb_cut_self _ _) bv_X4_isNobody bm_X4_69 rfl rfl rfl rfl (Nat.le_of_ble_eq_true rfl) dX4_stand_2 ?_
  refine z_if_ne (pc := 5) C 17 dX4_stand_5 (by decide) (fun hc2 => ?_) (fun hc2 => ?_)
  · have hf := bb_e hf hc2
    refine z_lv [] rfl ?_
    exact B_X4_stand_17 C hR hr h R  hf
  · have hf := bb_t hf hc2
    refine z_iload_n (pc := 8) (i := 2) C 2 dX4_stand_8 rfl rfl ?_
    refine z_iconst (pc := 9) C (0 : Int32) dX4_stand_9 (by decide) ?_
    refine z_iconst (pc := 10) C (1 : Int32) dX4_stand_10 (by decide) ?_
    obtain ⟨q3, hq3, hf⟩ := bb_b_some hf
    refine z_callSi (pc := 11) (As := [.int x2, .int ((0 : Int32)), .int ((1 : Int32))]) (rest := []) C (hR.le (by decide)) (c_X4_outside hq3) (bb_cut_none _) bv_X4_outside bm_X4_46 rfl rfl (Nat.le_of_ble_eq_true rfl) dX4_stand_11 ?_
    refine z_if_eq (pc := 14) C 19 dX4_stand_14 (by decide) (fun hc4 => ?_) (fun hc4 => ?_)
    · have hf := bb_t hf hc4
      refine z_aload_n (pc := 19) (i := 0) C 0 dX4_stand_19 rfl rfl ?_
      refine z_get (pc := 20) (ci := 4) C (.ref (h 0 0)) bi_X4 rfl 0 0 (by decide) rfl bf_X4_10 rfl rfl dX4_stand_20 ?_
      refine z_iload_n (pc := 23) (i := 1) C 1 dX4_stand_23 rfl rfl ?_
      obtain ⟨q5, hq5, hf⟩ := bb_b_some hf
      refine z_callVi (pc := 24) (ci := 0) (q0 := 0) (As := [.int x1]) (rest := []) C (hR.le (by decide)) (c_X0_isFree (h 0) hq5) (cutp_X4_0 _ _ _) bv_X0_isFree bm_X4_89 rfl rfl rfl rfl (Nat.le_of_ble_eq_true rfl) dX4_stand_24 ?_
      refine z_if_ne (pc := 27) C 33 dX4_stand_27 (by decide) (fun hc6 => ?_) (fun hc6 => ?_)
      · have hf := bb_e hf hc6
        refine z_iconst (pc := 33) C (0 : Int32) dX4_stand_33 (by decide) ?_
        refine z_istore_n (pc := 34) (i := 3) (lv' := [(3, .int ((0 : Int32))), (0, .ref (h 5 0)), (1, .int x1), (2, .int x2)]) C dX4_stand_34 rfl (by decide) rfl ?_
        refine z_iconst (pc := 35) C (0 : Int32) dX4_stand_35 (by decide) ?_
        refine z_istore (pc := 36) (lv' := [(4, .int ((0 : Int32))), (3, .int ((0 : Int32))), (0, .ref (h 5 0)), (1, .int x1), (2, .int x2)]) C dX4_stand_36 (by decide) rfl ?_
        refine z_iconst (pc := 38) C (0 : Int32) dX4_stand_38 (by decide) ?_
        refine z_istore (pc := 39) (lv' := [(5, .int ((0 : Int32))), (4, .int ((0 : Int32))), (3, .int ((0 : Int32))), (0, .ref (h 5 0)), (1, .int x1), (2, .int x2)]) C dX4_stand_39 (by decide) rfl ?_
        refine z_lv [3, 4, 5, 2, 1, 0] rfl ?_
        exact B_X4_stand_41 C hR hr h R  bb_N _ _ _ _ _ _ hf
      · have hf := bb_t hf hc6
        refine z_bipush (pc := 30) C (-2 : Int32) dX4_stand_30 (by decide) ?_
        obtain rfl := Option.some.inj hf
        exact z_iret (pc := 32) C hr R dX4_stand_32
    · have hf := bb_e hf hc4
      refine z_lv [] rfl ?_
      exact B_X4_stand_17 C hR hr h R  hf
theorem c_X4_stand {l : Launch} {D : va_G} {cs : Nat → ClassId} (h : Nat → Nat → Nat) {s0 : bb_H} {x1 : Int32} {x2 : Int32} {z : (Int32 × bb_H)} (hf : F_X4_stand_0 s0 x1 x2 = some z) : bb_M l yX4_stand cX4_stand 7 (some .int) 7 D cs [.ref (h 5 0), .int x1, .int x2] (some (.int z.1)) (wX4 cs h s0) (wX4 cs h z.2) := bb_mg (by decide) rfl (Nat.le_of_ble_eq_true rfl) rfl (fun X hl hD hcs C hR hr R => by
  subst hl
  subst hD
  subst hcs
  exact B_X4_stand_0 C hR hr h R hf)
/-! X4_hush: writes, level 7 -/
noncomputable def F_X4_hush_18 (s0 : bb_H) : Option (Int32 × bb_H) := some ((-1 : Int32), s0)
set_option maxHeartbeats 4000000 in
set_option maxRecDepth 100000 in
theorem B_X4_hush_18 {X : bb_X} (C : bb_C X RX4 cX4_hush 4) (hR : bb_r X 7) (hr : X.meth.sig.returnType = (some .int)) (h : Nat → Nat → Nat) {z : (Int32 × bb_H)} (R : bb_R X (some (.int z.1)) (wX4 X.cs h z.2)) {s0 : bb_H} (hf : F_X4_hush_18 s0 = some z) : bb_Z X 4 (wX4 X.cs h s0) 18 [] [] := by
  refine z_iconst (pc := 18) C (-1 : Int32) dX4_hush_18 (by decide) ?_
  obtain rfl := Option.some.inj hf
  exact z_iret (pc := 19) C hr R dX4_hush_19
noncomputable def F_X4_hush_73 (k36 : bb_H → Int32 → Int32 → Int32 → Option (Int32 × bb_H)) (s0 : bb_H) (x1 : Int32) (x2 : Int32) (x3 : Int32) : Option (Int32 × bb_H) := (F_X0_behindHowMany_0 ((s0 2)) x1 x2).bind (fun q1 => if q1.1 ≤ x2 then (k36 (va_up s0 2 q1.2) x1 x2 (x3 + 1)) else (some (x3, va_up s0 2 q1.2)))
set_option maxHeartbeats 4000000 in
set_option maxRecDepth 100000 in
theorem B_X4_hush_73 {X : bb_X} (C : bb_C X RX4 cX4_hush 4) (hR : bb_r X 7) (hr : X.meth.sig.returnType = (some .int)) (h : Nat → Nat → Nat) {z : (Int32 × bb_H)} (R : bb_R X (some (.int z.1)) (wX4 X.cs h z.2)) {k36 : bb_H → Int32 → Int32 → Int32 → Option (Int32 × bb_H)} (hk36 : ∀ (s0 : bb_H) (x1 : Int32) (x2 : Int32) (x3 : Int32), k36 s0 x1 x2 x3 = some z → bb_Z X 4 (wX4 X.cs h s0) 36 [(0, .ref (h 5 0)), (1, .int x1), (2, .int x2), (3, .int x3)] []) {s0 : bb_H} {x1 : Int32} {x2 : Int32} {x3 : Int32} (hf : F_X4_hush_73 k36 s0 x1 x2 x3 = some z) : bb_Z X 4 (wX4 X.cs h s0) 73 [(0, .ref (h 5 0)), (1, .int x1), (2, .int x2), (3, .int x3)] [] := by
  refine z_aload_n (pc := 73) (i := 0) C 0 dX4_hush_73 rfl rfl ?_
  refine z_get (pc := 74) (ci := 4) C (.ref (h 2 0)) bi_X4 rfl 0 2 (by decide) rfl bf_X4_23 rfl rfl dX4_hush_74 ?_
  refine z_iload_n (pc := 77) (i := 1) C 1 dX4_hush_77 rfl rfl ?_
  refine z_iload_n (pc := 78) (i := 2) C 2 dX4_hush_78 rfl rfl ?_
  obtain ⟨q1, hq1, hf⟩ := bb_b_some hf
  refine z_callVi (pc := 79) (ci := 0) (q0 := 0) (As := [.int x1, .int x2]) (rest := []) (ws' := wX4 X.cs h (va_up s0 2 q1.2)) C (hR.le (by decide)) (c_X0_behindHowMany (h 2) hq1) (cut_X4_2 _ _ _ _) bv_X0_behindHowMany bm_X4_171 rfl rfl rfl rfl (Nat.le_of_ble_eq_true rfl) dX4_hush_79 ?_
  refine z_iload_n (pc := 82) (i := 2) C 2 dX4_hush_82 rfl rfl ?_
  refine z_icmp_le (pc := 83) C 88 dX4_hush_83 (by decide) (fun hc2 => ?_) (fun hc2 => ?_)
  · have hf := bb_t hf hc2
    refine z_iinc (pc := 88) (lv' := [(3, .int (x3 + 1)), (0, .ref (h 5 0)), (1, .int x1), (2, .int x2)]) C (x3 + 1) 3 dX4_hush_88 rfl rfl (by decide) rfl ?_
    refine z_goto (pc := 91) C 36 dX4_hush_91 (by decide) ?_
    refine z_lv [1, 2, 3, 0] rfl ?_
    exact hk36 _ _ _ _ hf
  · have hf := bb_e hf hc2
    refine z_iload_n (pc := 86) (i := 3) C 3 dX4_hush_86 rfl rfl ?_
    obtain rfl := Option.some.inj hf
    exact z_iret (pc := 87) C hr R dX4_hush_87
noncomputable def G_X4_hush_36 (k36 : bb_H → Int32 → Int32 → Int32 → Option (Int32 × bb_H)) (s0 : bb_H) (x1 : Int32) (x2 : Int32) (x3 : Int32) : Option (Int32 × bb_H) := bb_g (vp_in x1 6) (if (((s0 0)).2.1 11 x1.toNatClampNeg) < x3 then (some ((-4 : Int32), s0)) else ((F_X0_take_0 ((s0 2)) ((s0 0))).bind (fun q3 => bb_g (vp_in x1 6) (bb_g (vp_in x1 6) (F_X4_hush_73 k36 (va_up (va_up (va_up s0 2 q3.1) 0 q3.2) 2 (bb_sA (((va_up (va_up s0 2 q3.1) 0 q3.2) 2)) 11 (upd ((((va_up (va_up s0 2 q3.1) 0 q3.2) 2)).2.1 11) x1.toNatClampNeg (((((va_up (va_up s0 2 q3.1) 0 q3.2) 2)).2.1 11 x1.toNatClampNeg) - x3)))) x1 x2 x3)))))
noncomputable def F_X4_hush_36  : Nat → bb_H → Int32 → Int32 → Int32 → Option (Int32 × bb_H)
  | 0, _, _, _, _ => none
  | n + 1, s0, x1, x2, x3 => G_X4_hush_36  (F_X4_hush_36  n) s0 x1 x2 x3
set_option maxHeartbeats 4000000 in
set_option maxRecDepth 100000 in
theorem A_X4_hush_36 {X : bb_X} (C : bb_C X RX4 cX4_hush 4) (hR : bb_r X 7) (hr : X.meth.sig.returnType = (some .int)) (h : Nat → Nat → Nat) {z : (Int32 × bb_H)} (R : bb_R X (some (.int z.1)) (wX4 X.cs h z.2)) {k36 : bb_H → Int32 → Int32 → Int32 → Option (Int32 × bb_H)} (hk36 : ∀ (s0 : bb_H) (x1 : Int32) (x2 : Int32) (x3 : Int32), k36 s0 x1 x2 x3 = some z → bb_Z X 4 (wX4 X.cs h s0) 36 [(0, .ref (h 5 0)), (1, .int x1), (2, .int x2), (3, .int x3)] []) {s0 : bb_H} {x1 : Int32} {x2 : Int32} {x3 : Int32} (hf : G_X4_hush_36 k36 s0 x1 x2 x3 = some z) : bb_Z X 4 (wX4 X.cs h s0) 36 [(0, .ref (h 5 0)), (1, .int x1), (2, .int x2), (3, .int x3)] [] := by
  refine z_iload_n (pc := 36) (i := 3) C 3 dX4_hush_36 rfl rfl ?_
  refine z_aload_n (pc := 37) (i := 0) C 0 dX4_hush_37 rfl rfl ?_
  refine z_get (pc := 38) (ci := 4) C (.ref (h 0 0)) bi_X4 rfl 0 0 (by decide) rfl bf_X4_10 rfl rfl dX4_hush_38 ?_
  refine z_get (pc := 41) (ci := 0) C (.ref (h 0 12)) bi_X0 rfl 2 11 (by decide) rfl bf_X4_80 rfl rfl dX4_hush_41 ?_
  refine z_iload_n (pc := 44) (i := 1) C 1 dX4_hush_44 rfl rfl ?_
  obtain ⟨hv1, hf⟩ := bb_g_some hf
  refine z_iald (pc := 45) C 5 0 (x1.toNatClampNeg) rfl rfl hv1 rfl dX4_hush_45 ?_
  refine z_icmp_gt (pc := 46) C 94 dX4_hush_46 (by decide) (fun hc2 => ?_) (fun hc2 => ?_)
  · have hf := bb_t hf hc2
    refine z_bipush (pc := 94) C (-4 : Int32) dX4_hush_94 (by decide) ?_
    obtain rfl := Option.some.inj hf
    exact z_iret (pc := 96) C hr R dX4_hush_96
  · have hf := bb_e hf hc2
    refine z_aload_n (pc := 49) (i := 0) C 0 dX4_hush_49 rfl rfl ?_
    refine z_get (pc := 50) (ci := 4) C (.ref (h 2 0)) bi_X4 rfl 0 2 (by decide) rfl bf_X4_23 rfl rfl dX4_hush_50 ?_
    refine z_aload_n (pc := 53) (i := 0) C 0 dX4_hush_53 rfl rfl ?_
    refine z_get (pc := 54) (ci := 4) C (.ref (h 0 0)) bi_X4 rfl 0 0 (by decide) rfl bf_X4_10 rfl rfl dX4_hush_54 ?_
    obtain ⟨q3, hq3, hf⟩ := bb_b_some hf
    refine z_callVv (pc := 57) (ci := 0) (q0 := 0) (As := [.ref (h 0 0)]) (rest := []) (ws' := wX4 X.cs h (va_up (va_up s0 2 q3.1) 0 q3.2)) C (hR.le (by decide)) (c_X0_take (h 2) (h 0) hq3) (cut_X4_2_0 _ _ _ _ _) bv_X0_take bm_X4_111 rfl rfl rfl rfl (Nat.le_of_ble_eq_true rfl) dX4_hush_57 ?_
    refine z_aload_n (pc := 60) (i := 0) C 0 dX4_hush_60 rfl rfl ?_
    refine z_get (pc := 61) (ci := 4) C (.ref (h 2 0)) bi_X4 rfl 0 2 (by decide) rfl bf_X4_23 rfl rfl dX4_hush_61 ?_
    refine z_get (pc := 64) (ci := 0) C (.ref (h 2 12)) bi_X0 rfl 18 11 (by decide) rfl bf_X4_80 rfl rfl dX4_hush_64 ?_
    refine z_iload_n (pc := 67) (i := 1) C 1 dX4_hush_67 rfl rfl ?_
    refine z_dup2 (pc := 68) C dX4_hush_68 rfl rfl ?_
    obtain ⟨hv4, hf⟩ := bb_g_some hf
    refine z_iald (pc := 69) C 21 0 (x1.toNatClampNeg) rfl rfl hv4 rfl dX4_hush_69 ?_
    refine z_iload_n (pc := 70) (i := 3) C 3 dX4_hush_70 rfl rfl ?_
    refine z_isub (pc := 71) C dX4_hush_71 ?_
    obtain ⟨hv5, hf⟩ := bb_g_some hf
    refine z_iast (pc := 72) (ws' := wX4 X.cs h (va_up (va_up (va_up s0 2 q3.1) 0 q3.2) 2 (bb_sA (((va_up (va_up s0 2 q3.1) 0 q3.2) 2)) 11 (upd ((((va_up (va_up s0 2 q3.1) 0 q3.2) 2)).2.1 11) x1.toNatClampNeg (((((va_up (va_up s0 2 q3.1) 0 q3.2) 2)).2.1 11 x1.toNatClampNeg) - x3))))) C 21 0 (x1.toNatClampNeg) rfl rfl hv5 rfl rfl dX4_hush_72 ?_
    exact B_X4_hush_73 C hR hr h R hk36 hf
theorem B_X4_hush_36 {X : bb_X} (C : bb_C X RX4 cX4_hush 4) (hR : bb_r X 7) (hr : X.meth.sig.returnType = (some .int)) (h : Nat → Nat → Nat) {z : (Int32 × bb_H)} (R : bb_R X (some (.int z.1)) (wX4 X.cs h z.2)) : ∀ (n : Nat) (s0 : bb_H) (x1 : Int32) (x2 : Int32) (x3 : Int32), F_X4_hush_36  n s0 x1 x2 x3 = some z → bb_Z X 4 (wX4 X.cs h s0) 36 [(0, .ref (h 5 0)), (1, .int x1), (2, .int x2), (3, .int x3)] [] := by
  intro n
  induction n with
  | zero =>
    intro s0 x1 x2 x3 hf
    cases hf
  | succ n ih =>
    intro s0 x1 x2 x3 hf
    exact A_X4_hush_36 C hR hr h R  ih hf
noncomputable def F_X4_hush_0 (s0 : bb_H) (x1 : Int32) (x2 : Int32) : Option (Int32 × bb_H) := (F_X4_isNobody_0 s0 x1).bind (fun q1 => if q1 = 0 then ((F_X4_outside_0 x2 ((1 : Int32)) ((60 : Int32))).bind (fun q3 => if q3 = 0 then ((F_X0_isFree_0 ((s0 0)) x1).bind (fun q5 => if q5 = 0 then (some ((-2 : Int32), s0)) else (F_X4_hush_36 bb_N s0 x1 x2 ((0 : Int32))))) else (F_X4_hush_18 s0))) else (F_X4_hush_18 s0))
set_option maxHeartbeats 4000000 in
set_option maxRecDepth 100000 in
theorem B_X4_hush_0 {X : bb_X} (C : bb_C X RX4 cX4_hush 4) (hR : bb_r X 7) (hr : X.meth.sig.returnType = (some .int)) (h : Nat → Nat → Nat) {z : (Int32 × bb_H)} (R : bb_R X (some (.int z.1)) (wX4 X.cs h z.2)) {s0 : bb_H} {x1 : Int32} {x2 : Int32} (hf : F_X4_hush_0 s0 x1 x2 = some z) : bb_Z X 4 (wX4 X.cs h s0) 0 [(0, .ref (h 5 0)), (1, .int x1), (2, .int x2)] [] := by
  refine z_aload_n (pc := 0) (i := 0) C 0 dX4_hush_0 rfl rfl ?_
  refine z_iload_n (pc := 1) (i := 1) C 1 dX4_hush_1 rfl rfl ?_
  obtain ⟨q1, hq1, hf⟩ := bb_b_some hf
  refine z_callVi (pc := 2) (ci := 4) (q0 := 0) (As := [.int x1]) (rest := []) C (hR.le (by decide)) (c_X4_isNobody h hq1) (bb_cut_self _ _) bv_X4_isNobody bm_X4_69 rfl rfl rfl rfl (Nat.le_of_ble_eq_true rfl) dX4_hush_2 ?_
  refine z_if_ne (pc := 5) C 18 dX4_hush_5 (by decide) (fun hc2 => ?_) (fun hc2 => ?_)
  · have hf := bb_e hf hc2
    refine z_lv [] rfl ?_
    exact B_X4_hush_18 C hR hr h R  hf
  · have hf := bb_t hf hc2
    refine z_iload_n (pc := 8) (i := 2) C 2 dX4_hush_8 rfl rfl ?_
    refine z_iconst (pc := 9) C (1 : Int32) dX4_hush_9 (by decide) ?_
    refine z_bipush (pc := 10) C (60 : Int32) dX4_hush_10 (by decide) ?_
    obtain ⟨q3, hq3, hf⟩ := bb_b_some hf
    refine z_callSi (pc := 12) (As := [.int x2, .int ((1 : Int32)), .int ((60 : Int32))]) (rest := []) C (hR.le (by decide)) (c_X4_outside hq3) (bb_cut_none _) bv_X4_outside bm_X4_46 rfl rfl (Nat.le_of_ble_eq_true rfl) dX4_hush_12 ?_
    refine z_if_eq (pc := 15) C 20 dX4_hush_15 (by decide) (fun hc4 => ?_) (fun hc4 => ?_)
    · have hf := bb_t hf hc4
      refine z_aload_n (pc := 20) (i := 0) C 0 dX4_hush_20 rfl rfl ?_
      refine z_get (pc := 21) (ci := 4) C (.ref (h 0 0)) bi_X4 rfl 0 0 (by decide) rfl bf_X4_10 rfl rfl dX4_hush_21 ?_
      refine z_iload_n (pc := 24) (i := 1) C 1 dX4_hush_24 rfl rfl ?_
      obtain ⟨q5, hq5, hf⟩ := bb_b_some hf
      refine z_callVi (pc := 25) (ci := 0) (q0 := 0) (As := [.int x1]) (rest := []) C (hR.le (by decide)) (c_X0_isFree (h 0) hq5) (cutp_X4_0 _ _ _) bv_X0_isFree bm_X4_89 rfl rfl rfl rfl (Nat.le_of_ble_eq_true rfl) dX4_hush_25 ?_
      refine z_if_ne (pc := 28) C 34 dX4_hush_28 (by decide) (fun hc6 => ?_) (fun hc6 => ?_)
      · have hf := bb_e hf hc6
        refine z_iconst (pc := 34) C (0 : Int32) dX4_hush_34 (by decide) ?_
        refine z_istore_n (pc := 35) (i := 3) (lv' := [(3, .int ((0 : Int32))), (0, .ref (h 5 0)), (1, .int x1), (2, .int x2)]) C dX4_hush_35 rfl (by decide) rfl ?_
        refine z_lv [1, 2, 3, 0] rfl ?_
        exact B_X4_hush_36 C hR hr h R  bb_N _ _ _ _ hf
      · have hf := bb_t hf hc6
        refine z_bipush (pc := 31) C (-2 : Int32) dX4_hush_31 (by decide) ?_
        obtain rfl := Option.some.inj hf
        exact z_iret (pc := 33) C hr R dX4_hush_33
    · have hf := bb_e hf hc4
      refine z_lv [] rfl ?_
      exact B_X4_hush_18 C hR hr h R  hf
theorem c_X4_hush {l : Launch} {D : va_G} {cs : Nat → ClassId} (h : Nat → Nat → Nat) {s0 : bb_H} {x1 : Int32} {x2 : Int32} {z : (Int32 × bb_H)} (hf : F_X4_hush_0 s0 x1 x2 = some z) : bb_M l yX4_hush cX4_hush 4 (some .int) 7 D cs [.ref (h 5 0), .int x1, .int x2] (some (.int z.1)) (wX4 cs h s0) (wX4 cs h z.2) := bb_mg (by decide) rfl (Nat.le_of_ble_eq_true rfl) rfl (fun X hl hD hcs C hR hr R => by
  subst hl
  subst hD
  subst hcs
  exact B_X4_hush_0 C hR hr h R hf)
/-! X4_mask: reads, level 3 -/
noncomputable def F_X4_mask_17 (s0 : bb_H) : Option Int32 := some ((-1 : Int32))
set_option maxHeartbeats 4000000 in
set_option maxRecDepth 100000 in
theorem B_X4_mask_17 {X : bb_X} (C : bb_C X RX4 cX4_mask 7) (hR : bb_r X 3) (hr : X.meth.sig.returnType = (some .int)) (h : Nat → Nat → Nat) {z : Int32} {s0 : bb_H} (R : bb_R X (some (.int z)) (wX4 X.cs h s0))  (hf : F_X4_mask_17 s0 = some z) : bb_Z X 7 (wX4 X.cs h s0) 17 [] [] := by
  refine z_iconst (pc := 17) C (-1 : Int32) dX4_mask_17 (by decide) ?_
  obtain rfl := Option.some.inj hf
  exact z_iret (pc := 18) C hr R dX4_mask_18
noncomputable def F_X4_mask_101 (s0 : bb_H) (y0 : Int32) : Option Int32 := some y0
set_option maxHeartbeats 4000000 in
set_option maxRecDepth 100000 in
theorem B_X4_mask_101 {X : bb_X} (C : bb_C X RX4 cX4_mask 7) (hR : bb_r X 3) (hr : X.meth.sig.returnType = (some .int)) (h : Nat → Nat → Nat) {z : Int32} {s0 : bb_H} (R : bb_R X (some (.int z)) (wX4 X.cs h s0)) {y0 : Int32} (hf : F_X4_mask_101 s0 y0 = some z) : bb_Z X 7 (wX4 X.cs h s0) 101 [] [.int y0] := by
  obtain rfl := Option.some.inj hf
  exact z_iret (pc := 101) C hr R dX4_mask_101
noncomputable def F_X4_mask_99 (s0 : bb_H) (x4 : Int32) : Option Int32 := F_X4_mask_101 s0 x4
set_option maxHeartbeats 4000000 in
set_option maxRecDepth 100000 in
theorem B_X4_mask_99 {X : bb_X} (C : bb_C X RX4 cX4_mask 7) (hR : bb_r X 3) (hr : X.meth.sig.returnType = (some .int)) (h : Nat → Nat → Nat) {z : Int32} {s0 : bb_H} (R : bb_R X (some (.int z)) (wX4 X.cs h s0)) {x4 : Int32} (hf : F_X4_mask_99 s0 x4 = some z) : bb_Z X 7 (wX4 X.cs h s0) 99 [(4, .int x4)] [] := by
  refine z_iload (pc := 99) C 0 dX4_mask_99 rfl ?_
  refine z_lv [] rfl ?_
  exact B_X4_mask_101 C hR hr h R  hf
noncomputable def F_X4_mask_78 (s0 : bb_H) (k29 : Int32 → Int32 → Int32 → Int32 → Int32 → Option Int32) (x1 : Int32) (x2 : Int32) (x3 : Int32) (x4 : Int32) (x5 : Int32) : Option Int32 := k29 x1 x2 x3 x4 (x5 + 1)
set_option maxHeartbeats 4000000 in
set_option maxRecDepth 100000 in
theorem B_X4_mask_78 {X : bb_X} (C : bb_C X RX4 cX4_mask 7) (hR : bb_r X 3) (hr : X.meth.sig.returnType = (some .int)) (h : Nat → Nat → Nat) {z : Int32} {s0 : bb_H} (R : bb_R X (some (.int z)) (wX4 X.cs h s0)) {k29 : Int32 → Int32 → Int32 → Int32 → Int32 → Option Int32} (hk29 : ∀ (x1 : Int32) (x2 : Int32) (x3 : Int32) (x4 : Int32) (x5 : Int32), k29 x1 x2 x3 x4 x5 = some z → bb_Z X 7 (wX4 X.cs h s0) 29 [(0, .ref (h 5 0)), (1, .int x1), (2, .int x2), (3, .int x3), (4, .int x4), (5, .int x5)] []) {x1 : Int32} {x2 : Int32} {x3 : Int32} {x4 : Int32} {x5 : Int32} (hf : F_X4_mask_78 s0 k29 x1 x2 x3 x4 x5 = some z) : bb_Z X 7 (wX4 X.cs h s0) 78 [(0, .ref (h 5 0)), (1, .int x1), (2, .int x2), (3, .int x3), (4, .int x4), (5, .int x5)] [] := by
  refine z_iinc (pc := 78) (lv' := [(5, .int (x5 + 1)), (0, .ref (h 5 0)), (1, .int x1), (2, .int x2), (3, .int x3), (4, .int x4)]) C (x5 + 1) 5 dX4_mask_78 rfl rfl (by decide) rfl ?_
  refine z_goto (pc := 81) C 29 dX4_mask_81 (by decide) ?_
  refine z_lv [1, 2, 3, 4, 5, 0] rfl ?_
  exact hk29 _ _ _ _ _ hf
noncomputable def G_X4_mask_29 (s0 : bb_H) (k29 : Int32 → Int32 → Int32 → Int32 → Int32 → Option Int32) (x1 : Int32) (x2 : Int32) (x3 : Int32) (x4 : Int32) (x5 : Int32) : Option Int32 := if ((63 : Int32)) < x5 then (if x2 = 0 then (if x4 = ((-4 : Int32)) then (F_X4_mask_99 s0 x4) else (F_X4_mask_101 s0 x3)) else (F_X4_mask_99 s0 x4)) else ((F_J6_bitCount_0f7a4_0 x5).bind (fun q4 => if x3 ≤ q4 then (F_X4_mask_78 s0 k29 x1 x2 x3 x4 x5) else ((F_X0_feel_0 ((s0 0)) x1).bind (fun q6 => (F_X0_namedBy_0 ((s0 0)) (q6 ^^^ x5)).bind (fun q7 => if q7 = x1 then (F_X4_mask_78 s0 k29 x1 x2 x3 x4 x5) else (F_X4_mask_78 s0 k29 x1 x2 q4 x5 x5))))))
noncomputable def F_X4_mask_29 (s0 : bb_H) : Nat → Int32 → Int32 → Int32 → Int32 → Int32 → Option Int32
  | 0, _, _, _, _, _ => none
  | n + 1, x1, x2, x3, x4, x5 => G_X4_mask_29 s0 (F_X4_mask_29 s0 n) x1 x2 x3 x4 x5
set_option maxHeartbeats 4000000 in
set_option maxRecDepth 100000 in
theorem A_X4_mask_29 {X : bb_X} (C : bb_C X RX4 cX4_mask 7) (hR : bb_r X 3) (hr : X.meth.sig.returnType = (some .int)) (h : Nat → Nat → Nat) {z : Int32} {s0 : bb_H} (R : bb_R X (some (.int z)) (wX4 X.cs h s0)) {k29 : Int32 → Int32 → Int32 → Int32 → Int32 → Option Int32} (hk29 : ∀ (x1 : Int32) (x2 : Int32) (x3 : Int32) (x4 : Int32) (x5 : Int32), k29 x1 x2 x3 x4 x5 = some z → bb_Z X 7 (wX4 X.cs h s0) 29 [(0, .ref (h 5 0)), (1, .int x1), (2, .int x2), (3, .int x3), (4, .int x4), (5, .int x5)] []) {x1 : Int32} {x2 : Int32} {x3 : Int32} {x4 : Int32} {x5 : Int32} (hf : G_X4_mask_29 s0 k29 x1 x2 x3 x4 x5 = some z) : bb_Z X 7 (wX4 X.cs h s0) 29 [(0, .ref (h 5 0)), (1, .int x1), (2, .int x2), (3, .int x3), (4, .int x4), (5, .int x5)] [] := by
  refine z_iload (pc := 29) C 5 dX4_mask_29 rfl ?_
  refine z_bipush (pc := 31) C (63 : Int32) dX4_mask_31 (by decide) ?_
  refine z_icmp_gt (pc := 33) C 84 dX4_mask_33 (by decide) (fun hc1 => ?_) (fun hc1 => ?_)
  · have hf := bb_t hf hc1
    refine z_iload_n (pc := 84) (i := 2) C 2 dX4_mask_84 rfl rfl ?_
    refine z_if_ne (pc := 85) C 99 dX4_mask_85 (by decide) (fun hc2 => ?_) (fun hc2 => ?_)
    · have hf := bb_e hf hc2
      refine z_lv [4] rfl ?_
      exact B_X4_mask_99 C hR hr h R  hf
    · have hf := bb_t hf hc2
      refine z_iload (pc := 88) C 4 dX4_mask_88 rfl ?_
      refine z_bipush (pc := 90) C (-4 : Int32) dX4_mask_90 (by decide) ?_
      refine z_icmp_eq (pc := 92) C 99 dX4_mask_92 (by decide) (fun hc3 => ?_) (fun hc3 => ?_)
      · have hf := bb_t hf hc3
        refine z_lv [4] rfl ?_
        exact B_X4_mask_99 C hR hr h R  hf
      · have hf := bb_e hf hc3
        refine z_iload_n (pc := 95) (i := 3) C 3 dX4_mask_95 rfl rfl ?_
        refine z_goto (pc := 96) C 101 dX4_mask_96 (by decide) ?_
        refine z_lv [] rfl ?_
        exact B_X4_mask_101 C hR hr h R  hf
  · have hf := bb_e hf hc1
    refine z_iload (pc := 36) C 5 dX4_mask_36 rfl ?_
    obtain ⟨q4, hq4, hf⟩ := bb_b_some hf
    refine z_callSi (pc := 38) (As := [.int x5]) (rest := []) C (hR.le (by decide)) (c_J6_bitCount_0f7a4 hq4) (bb_cut_none _) bv_J6_bitCount_0f7a4 bm_X4_174 rfl rfl (Nat.le_of_ble_eq_true rfl) dX4_mask_38 ?_
    refine z_istore (pc := 41) (lv' := [(6, .int q4), (0, .ref (h 5 0)), (1, .int x1), (2, .int x2), (3, .int x3), (4, .int x4), (5, .int x5)]) C dX4_mask_41 (by decide) rfl ?_
    refine z_iload (pc := 43) C 0 dX4_mask_43 rfl ?_
    refine z_iload_n (pc := 45) (i := 3) C 4 dX4_mask_45 rfl rfl ?_
    refine z_icmp_ge (pc := 46) C 78 dX4_mask_46 (by decide) (fun hc5 => ?_) (fun hc5 => ?_)
    · have hf := bb_t hf hc5
      refine z_lv [1, 2, 3, 4, 5, 6] rfl ?_
      exact B_X4_mask_78 C hR hr h R hk29 hf
    · have hf := bb_e hf hc5
      refine z_aload_n (pc := 49) (i := 0) C 1 dX4_mask_49 rfl rfl ?_
      refine z_get (pc := 50) (ci := 4) C (.ref (h 0 0)) bi_X4 rfl 0 0 (by decide) rfl bf_X4_10 rfl rfl dX4_mask_50 ?_
      refine z_aload_n (pc := 53) (i := 0) C 1 dX4_mask_53 rfl rfl ?_
      refine z_get (pc := 54) (ci := 4) C (.ref (h 0 0)) bi_X4 rfl 0 0 (by decide) rfl bf_X4_10 rfl rfl dX4_mask_54 ?_
      refine z_iload_n (pc := 57) (i := 1) C 2 dX4_mask_57 rfl rfl ?_
      obtain ⟨q6, hq6, hf⟩ := bb_b_some hf
      refine z_callVi (pc := 58) (ci := 0) (q0 := 0) (As := [.int x1]) (rest := [.ref (h 0 0)]) C (hR.le (by decide)) (c_X0_feel (h 0) hq6) (cutp_X4_0 _ _ _) bv_X0_feel bm_X4_99 rfl rfl rfl rfl (Nat.le_of_ble_eq_true rfl) dX4_mask_58 ?_
      refine z_iload (pc := 61) C 6 dX4_mask_61 rfl ?_
      refine z_ixor (pc := 63) C dX4_mask_63 ?_
      obtain ⟨q7, hq7, hf⟩ := bb_b_some hf
      refine z_callVi (pc := 64) (ci := 0) (q0 := 0) (As := [.int (q6 ^^^ x5)]) (rest := []) C (hR.le (by decide)) (c_X0_namedBy (h 0) hq7) (cutp_X4_0 _ _ _) bv_X0_namedBy bm_X4_102 rfl rfl rfl rfl (Nat.le_of_ble_eq_true rfl) dX4_mask_64 ?_
      refine z_iload_n (pc := 67) (i := 1) C 2 dX4_mask_67 rfl rfl ?_
      refine z_icmp_eq (pc := 68) C 78 dX4_mask_68 (by decide) (fun hc8 => ?_) (fun hc8 => ?_)
      · have hf := bb_t hf hc8
        refine z_lv [1, 2, 3, 4, 5, 6] rfl ?_
        exact B_X4_mask_78 C hR hr h R hk29 hf
      · have hf := bb_e hf hc8
        refine z_iload (pc := 71) C 0 dX4_mask_71 rfl ?_
        refine z_istore_n (pc := 73) (i := 3) (lv' := [(3, .int q4), (6, .int q4), (0, .ref (h 5 0)), (1, .int x1), (2, .int x2), (4, .int x4), (5, .int x5)]) C dX4_mask_73 rfl (by decide) rfl ?_
        refine z_iload (pc := 74) C 6 dX4_mask_74 rfl ?_
        refine z_istore (pc := 76) (lv' := [(4, .int x5), (3, .int q4), (6, .int q4), (0, .ref (h 5 0)), (1, .int x1), (2, .int x2), (5, .int x5)]) C dX4_mask_76 (by decide) rfl ?_
        refine z_lv [3, 4, 5, 1, 0, 6] rfl ?_
        exact B_X4_mask_78 C hR hr h R hk29 hf
theorem B_X4_mask_29 {X : bb_X} (C : bb_C X RX4 cX4_mask 7) (hR : bb_r X 3) (hr : X.meth.sig.returnType = (some .int)) (h : Nat → Nat → Nat) {z : Int32} {s0 : bb_H} (R : bb_R X (some (.int z)) (wX4 X.cs h s0)) : ∀ (n : Nat) (x1 : Int32) (x2 : Int32) (x3 : Int32) (x4 : Int32) (x5 : Int32), F_X4_mask_29 s0 n x1 x2 x3 x4 x5 = some z → bb_Z X 7 (wX4 X.cs h s0) 29 [(0, .ref (h 5 0)), (1, .int x1), (2, .int x2), (3, .int x3), (4, .int x4), (5, .int x5)] [] := by
  intro n
  induction n with
  | zero =>
    intro x1 x2 x3 x4 x5 hf
    cases hf
  | succ n ih =>
    intro x1 x2 x3 x4 x5 hf
    exact A_X4_mask_29 C hR hr h R  ih hf
noncomputable def F_X4_mask_0 (s0 : bb_H) (x1 : Int32) (x2 : Int32) : Option Int32 := (F_X4_isNobody_0 s0 x1).bind (fun q1 => if q1 = 0 then ((F_X4_outside_0 x2 ((0 : Int32)) ((1 : Int32))).bind (fun q3 => if q3 = 0 then (F_X4_mask_29 s0 bb_N x1 x2 ((7 : Int32)) ((-4 : Int32)) ((0 : Int32))) else (F_X4_mask_17 s0))) else (F_X4_mask_17 s0))
set_option maxHeartbeats 4000000 in
set_option maxRecDepth 100000 in
theorem B_X4_mask_0 {X : bb_X} (C : bb_C X RX4 cX4_mask 7) (hR : bb_r X 3) (hr : X.meth.sig.returnType = (some .int)) (h : Nat → Nat → Nat) {z : Int32} {s0 : bb_H} (R : bb_R X (some (.int z)) (wX4 X.cs h s0)) {x1 : Int32} {x2 : Int32} (hf : F_X4_mask_0 s0 x1 x2 = some z) : bb_Z X 7 (wX4 X.cs h s0) 0 [(0, .ref (h 5 0)), (1, .int x1), (2, .int x2)] [] := by
  refine z_aload_n (pc := 0) (i := 0) C 0 dX4_mask_0 rfl rfl ?_
  refine z_iload_n (pc := 1) (i := 1) C 1 dX4_mask_1 rfl rfl ?_
  obtain ⟨q1, hq1, hf⟩ := bb_b_some hf
  refine z_callVi (pc := 2) (ci := 4) (q0 := 0) (As := [.int x1]) (rest := []) C (hR.le (by decide)) (c_X4_isNobody h hq1) (bb_cut_self _ _) bv_X4_isNobody bm_X4_69 rfl rfl rfl rfl (Nat.le_of_ble_eq_true rfl) dX4_mask_2 ?_
  refine z_if_ne (pc := 5) C 17 dX4_mask_5 (by decide) (fun hc2 => ?_) (fun hc2 => ?_)
  · have hf := bb_e hf hc2
    refine z_lv [] rfl ?_
    exact B_X4_mask_17 C hR hr h R  hf
  · have hf := bb_t hf hc2
    refine z_iload_n (pc := 8) (i := 2) C 2 dX4_mask_8 rfl rfl ?_
    refine z_iconst (pc := 9) C (0 : Int32) dX4_mask_9 (by decide) ?_
    refine z_iconst (pc := 10) C (1 : Int32) dX4_mask_10 (by decide) ?_
    obtain ⟨q3, hq3, hf⟩ := bb_b_some hf
    refine z_callSi (pc := 11) (As := [.int x2, .int ((0 : Int32)), .int ((1 : Int32))]) (rest := []) C (hR.le (by decide)) (c_X4_outside hq3) (bb_cut_none _) bv_X4_outside bm_X4_46 rfl rfl (Nat.le_of_ble_eq_true rfl) dX4_mask_11 ?_
    refine z_if_eq (pc := 14) C 19 dX4_mask_14 (by decide) (fun hc4 => ?_) (fun hc4 => ?_)
    · have hf := bb_t hf hc4
      refine z_bipush (pc := 19) C (7 : Int32) dX4_mask_19 (by decide) ?_
      refine z_istore_n (pc := 21) (i := 3) (lv' := [(3, .int ((7 : Int32))), (0, .ref (h 5 0)), (1, .int x1), (2, .int x2)]) C dX4_mask_21 rfl (by decide) rfl ?_
      refine z_bipush (pc := 22) C (-4 : Int32) dX4_mask_22 (by decide) ?_
      refine z_istore (pc := 24) (lv' := [(4, .int ((-4 : Int32))), (3, .int ((7 : Int32))), (0, .ref (h 5 0)), (1, .int x1), (2, .int x2)]) C dX4_mask_24 (by decide) rfl ?_
      refine z_iconst (pc := 26) C (0 : Int32) dX4_mask_26 (by decide) ?_
      refine z_istore (pc := 27) (lv' := [(5, .int ((0 : Int32))), (4, .int ((-4 : Int32))), (3, .int ((7 : Int32))), (0, .ref (h 5 0)), (1, .int x1), (2, .int x2)]) C dX4_mask_27 (by decide) rfl ?_
      refine z_lv [3, 4, 5, 2, 1, 0] rfl ?_
      exact B_X4_mask_29 C hR hr h R  bb_N _ _ _ _ _ hf
    · have hf := bb_e hf hc4
      refine z_lv [] rfl ?_
      exact B_X4_mask_17 C hR hr h R  hf
theorem c_X4_mask {l : Launch} {D : va_G} {cs : Nat → ClassId} (h : Nat → Nat → Nat) {s0 : bb_H} {x1 : Int32} {x2 : Int32} {z : Int32} (hf : F_X4_mask_0 s0 x1 x2 = some z) : bb_M l yX4_mask cX4_mask 7 (some .int) 3 D cs [.ref (h 5 0), .int x1, .int x2] (some (.int z)) (wX4 cs h s0) (wX4 cs h s0) := bb_mg (by decide) rfl (Nat.le_of_ble_eq_true rfl) rfl (fun X hl hD hcs C hR hr R => by
  subst hl
  subst hD
  subst hcs
  exact B_X4_mask_0 C hR hr h R hf)
/-! X4_alike: reads, level 2 -/
noncomputable def F_X4_alike_19 (s0 : bb_H) : Option Int32 := some ((-1 : Int32))
set_option maxHeartbeats 4000000 in
set_option maxRecDepth 100000 in
theorem B_X4_alike_19 {X : bb_X} (C : bb_C X RX4 cX4_alike 7) (hR : bb_r X 2) (hr : X.meth.sig.returnType = (some .int)) (h : Nat → Nat → Nat) {z : Int32} {s0 : bb_H} (R : bb_R X (some (.int z)) (wX4 X.cs h s0))  (hf : F_X4_alike_19 s0 = some z) : bb_Z X 7 (wX4 X.cs h s0) 19 [] [] := by
  refine z_iconst (pc := 19) C (-1 : Int32) dX4_alike_19 (by decide) ?_
  obtain rfl := Option.some.inj hf
  exact z_iret (pc := 20) C hr R dX4_alike_20
noncomputable def F_X4_alike_132 (s0 : bb_H) (y0 : Int32) : Option Int32 := some y0
set_option maxHeartbeats 4000000 in
set_option maxRecDepth 100000 in
theorem B_X4_alike_132 {X : bb_X} (C : bb_C X RX4 cX4_alike 7) (hR : bb_r X 2) (hr : X.meth.sig.returnType = (some .int)) (h : Nat → Nat → Nat) {z : Int32} {s0 : bb_H} (R : bb_R X (some (.int z)) (wX4 X.cs h s0)) {y0 : Int32} (hf : F_X4_alike_132 s0 y0 = some z) : bb_Z X 7 (wX4 X.cs h s0) 132 [] [.int y0] := by
  obtain rfl := Option.some.inj hf
  exact z_iret (pc := 132) C hr R dX4_alike_132
noncomputable def F_X4_alike_110 (s0 : bb_H) (k30 : Int32 → Int32 → Int32 → Int32 → Int32 → Option Int32) (k48 : Int32 → Int32 → Int32 → Int32 → Int32 → Int32 → Option Int32) (x1 : Int32) (x2 : Int32) (x3 : Int32) (x4 : Int32) (x5 : Int32) (x6 : Int32) : Option Int32 := k48 x1 x2 x3 x4 x5 (x6 + 1)
set_option maxHeartbeats 4000000 in
set_option maxRecDepth 100000 in
theorem B_X4_alike_110 {X : bb_X} (C : bb_C X RX4 cX4_alike 7) (hR : bb_r X 2) (hr : X.meth.sig.returnType = (some .int)) (h : Nat → Nat → Nat) {z : Int32} {s0 : bb_H} (R : bb_R X (some (.int z)) (wX4 X.cs h s0)) {k30 : Int32 → Int32 → Int32 → Int32 → Int32 → Option Int32} (hk30 : ∀ (x1 : Int32) (x2 : Int32) (x3 : Int32) (x4 : Int32) (x5 : Int32), k30 x1 x2 x3 x4 x5 = some z → bb_Z X 7 (wX4 X.cs h s0) 30 [(0, .ref (h 5 0)), (1, .int x1), (2, .int x2), (3, .int x3), (4, .int x4), (5, .int x5)] []) {k48 : Int32 → Int32 → Int32 → Int32 → Int32 → Int32 → Option Int32} (hk48 : ∀ (x1 : Int32) (x2 : Int32) (x3 : Int32) (x4 : Int32) (x5 : Int32) (x6 : Int32), k48 x1 x2 x3 x4 x5 x6 = some z → bb_Z X 7 (wX4 X.cs h s0) 48 [(0, .ref (h 5 0)), (1, .int x1), (2, .int x2), (3, .int x3), (4, .int x4), (5, .int x5), (6, .int x6)] []) {x1 : Int32} {x2 : Int32} {x3 : Int32} {x4 : Int32} {x5 : Int32} {x6 : Int32} (hf : F_X4_alike_110 s0 k30 k48 x1 x2 x3 x4 x5 x6 = some z) : bb_Z X 7 (wX4 X.cs h s0) 110 [(0, .ref (h 5 0)), (1, .int x1), (2, .int x2), (3, .int x3), (4, .int x4), (5, .int x5), (6, .int x6)] [] := by
  refine z_iinc (pc := 110) (lv' := [(6, .int (x6 + 1)), (0, .ref (h 5 0)), (1, .int x1), (2, .int x2), (3, .int x3), (4, .int x4), (5, .int x5)]) C (x6 + 1) 6 dX4_alike_110 rfl rfl (by decide) rfl ?_
  refine z_goto (pc := 113) C 48 dX4_alike_113 (by decide) ?_
  refine z_lv [1, 2, 3, 4, 5, 6, 0] rfl ?_
  exact hk48 _ _ _ _ _ _ hf
noncomputable def F_X4_alike_105 (s0 : bb_H) (k30 : Int32 → Int32 → Int32 → Int32 → Int32 → Option Int32) (k48 : Int32 → Int32 → Int32 → Int32 → Int32 → Int32 → Option Int32) (x1 : Int32) (x2 : Int32) (x3 : Int32) (x5 : Int32) (x6 : Int32) (y0 : Int32) : Option Int32 := F_X4_alike_110 s0 k30 k48 x1 x2 (x3 + 1) y0 x5 x6
set_option maxHeartbeats 4000000 in
set_option maxRecDepth 100000 in
theorem B_X4_alike_105 {X : bb_X} (C : bb_C X RX4 cX4_alike 7) (hR : bb_r X 2) (hr : X.meth.sig.returnType = (some .int)) (h : Nat → Nat → Nat) {z : Int32} {s0 : bb_H} (R : bb_R X (some (.int z)) (wX4 X.cs h s0)) {k30 : Int32 → Int32 → Int32 → Int32 → Int32 → Option Int32} (hk30 : ∀ (x1 : Int32) (x2 : Int32) (x3 : Int32) (x4 : Int32) (x5 : Int32), k30 x1 x2 x3 x4 x5 = some z → bb_Z X 7 (wX4 X.cs h s0) 30 [(0, .ref (h 5 0)), (1, .int x1), (2, .int x2), (3, .int x3), (4, .int x4), (5, .int x5)] []) {k48 : Int32 → Int32 → Int32 → Int32 → Int32 → Int32 → Option Int32} (hk48 : ∀ (x1 : Int32) (x2 : Int32) (x3 : Int32) (x4 : Int32) (x5 : Int32) (x6 : Int32), k48 x1 x2 x3 x4 x5 x6 = some z → bb_Z X 7 (wX4 X.cs h s0) 48 [(0, .ref (h 5 0)), (1, .int x1), (2, .int x2), (3, .int x3), (4, .int x4), (5, .int x5), (6, .int x6)] []) {x1 : Int32} {x2 : Int32} {x3 : Int32} {x5 : Int32} {x6 : Int32} {y0 : Int32} (hf : F_X4_alike_105 s0 k30 k48 x1 x2 x3 x5 x6 y0 = some z) : bb_Z X 7 (wX4 X.cs h s0) 105 [(0, .ref (h 5 0)), (1, .int x1), (2, .int x2), (3, .int x3), (5, .int x5), (6, .int x6)] [.int y0] := by
  refine z_istore (pc := 105) (lv' := [(4, .int y0), (0, .ref (h 5 0)), (1, .int x1), (2, .int x2), (3, .int x3), (5, .int x5), (6, .int x6)]) C dX4_alike_105 (by decide) rfl ?_
  refine z_iinc (pc := 107) (lv' := [(3, .int (x3 + 1)), (4, .int y0), (0, .ref (h 5 0)), (1, .int x1), (2, .int x2), (5, .int x5), (6, .int x6)]) C (x3 + 1) 4 dX4_alike_107 rfl rfl (by decide) rfl ?_
  refine z_lv [2, 3, 4, 0, 1, 5, 6] rfl ?_
  exact B_X4_alike_110 C hR hr h R hk30 hk48 hf
noncomputable def G_X4_alike_48 (s0 : bb_H) (k30 : Int32 → Int32 → Int32 → Int32 → Int32 → Option Int32) (k48 : Int32 → Int32 → Int32 → Int32 → Int32 → Int32 → Option Int32) (x1 : Int32) (x2 : Int32) (x3 : Int32) (x4 : Int32) (x5 : Int32) (x6 : Int32) : Option Int32 := if (((s0 0)).1 2) ≤ x6 then (k30 x1 x2 x3 x4 (x5 + 1)) else (bb_g (vp_in x5 6) (bb_g (vp_in x6 6) ((F_J6_bitCount_0f7a4_0 ((((s0 0)).2.1 12 x5.toNatClampNeg) ^^^ (((s0 0)).2.1 12 x6.toNatClampNeg))).bind (fun q4 => if x1 < q4 then (F_X4_alike_110 s0 k30 k48 x1 x2 x3 x4 x5 x6) else (if x3 = 0 then (F_X4_alike_105 s0 k30 k48 x1 x2 x3 x5 x6 ((((10 : Int32)) * x5) + x6)) else (F_X4_alike_105 s0 k30 k48 x1 x2 x3 x5 x6 x4))))))
noncomputable def F_X4_alike_48 (s0 : bb_H) (k30 : Int32 → Int32 → Int32 → Int32 → Int32 → Option Int32) : Nat → Int32 → Int32 → Int32 → Int32 → Int32 → Int32 → Option Int32
  | 0, _, _, _, _, _, _ => none
  | n + 1, x1, x2, x3, x4, x5, x6 => G_X4_alike_48 s0 k30 (F_X4_alike_48 s0 k30 n) x1 x2 x3 x4 x5 x6
set_option maxHeartbeats 4000000 in
set_option maxRecDepth 100000 in
theorem A_X4_alike_48 {X : bb_X} (C : bb_C X RX4 cX4_alike 7) (hR : bb_r X 2) (hr : X.meth.sig.returnType = (some .int)) (h : Nat → Nat → Nat) {z : Int32} {s0 : bb_H} (R : bb_R X (some (.int z)) (wX4 X.cs h s0)) {k30 : Int32 → Int32 → Int32 → Int32 → Int32 → Option Int32} (hk30 : ∀ (x1 : Int32) (x2 : Int32) (x3 : Int32) (x4 : Int32) (x5 : Int32), k30 x1 x2 x3 x4 x5 = some z → bb_Z X 7 (wX4 X.cs h s0) 30 [(0, .ref (h 5 0)), (1, .int x1), (2, .int x2), (3, .int x3), (4, .int x4), (5, .int x5)] []) {k48 : Int32 → Int32 → Int32 → Int32 → Int32 → Int32 → Option Int32} (hk48 : ∀ (x1 : Int32) (x2 : Int32) (x3 : Int32) (x4 : Int32) (x5 : Int32) (x6 : Int32), k48 x1 x2 x3 x4 x5 x6 = some z → bb_Z X 7 (wX4 X.cs h s0) 48 [(0, .ref (h 5 0)), (1, .int x1), (2, .int x2), (3, .int x3), (4, .int x4), (5, .int x5), (6, .int x6)] []) {x1 : Int32} {x2 : Int32} {x3 : Int32} {x4 : Int32} {x5 : Int32} {x6 : Int32} (hf : G_X4_alike_48 s0 k30 k48 x1 x2 x3 x4 x5 x6 = some z) : bb_Z X 7 (wX4 X.cs h s0) 48 [(0, .ref (h 5 0)), (1, .int x1), (2, .int x2), (3, .int x3), (4, .int x4), (5, .int x5), (6, .int x6)] [] := by
  refine z_iload (pc := 48) C 6 dX4_alike_48 rfl ?_
  refine z_aload_n (pc := 50) (i := 0) C 0 dX4_alike_50 rfl rfl ?_
  refine z_get (pc := 51) (ci := 4) C (.ref (h 0 0)) bi_X4 rfl 0 0 (by decide) rfl bf_X4_10 rfl rfl dX4_alike_51 ?_
  refine z_get (pc := 54) (ci := 0) C (.int (((s0 0)).1 2)) bi_X0 rfl 2 2 (by decide) rfl bf_X4_61 rfl rfl dX4_alike_54 ?_
  refine z_icmp_ge (pc := 57) C 116 dX4_alike_57 (by decide) (fun hc1 => ?_) (fun hc1 => ?_)
  · have hf := bb_t hf hc1
    refine z_iinc (pc := 116) (lv' := [(5, .int (x5 + 1)), (0, .ref (h 5 0)), (1, .int x1), (2, .int x2), (3, .int x3), (4, .int x4), (6, .int x6)]) C (x5 + 1) 5 dX4_alike_116 rfl rfl (by decide) rfl ?_
    refine z_goto (pc := 119) C 30 dX4_alike_119 (by decide) ?_
    refine z_lv [1, 2, 3, 4, 5, 0] rfl ?_
    exact hk30 _ _ _ _ _ hf
  · have hf := bb_e hf hc1
    refine z_aload_n (pc := 60) (i := 0) C 0 dX4_alike_60 rfl rfl ?_
    refine z_get (pc := 61) (ci := 4) C (.ref (h 0 0)) bi_X4 rfl 0 0 (by decide) rfl bf_X4_10 rfl rfl dX4_alike_61 ?_
    refine z_get (pc := 64) (ci := 0) C (.ref (h 0 13)) bi_X0 rfl 2 12 (by decide) rfl bf_X4_83 rfl rfl dX4_alike_64 ?_
    refine z_iload (pc := 67) C 5 dX4_alike_67 rfl ?_
    obtain ⟨hv2, hf⟩ := bb_g_some hf
    refine z_iald (pc := 69) C 6 0 (x5.toNatClampNeg) rfl rfl hv2 rfl dX4_alike_69 ?_
    refine z_aload_n (pc := 70) (i := 0) C 0 dX4_alike_70 rfl rfl ?_
    refine z_get (pc := 71) (ci := 4) C (.ref (h 0 0)) bi_X4 rfl 0 0 (by decide) rfl bf_X4_10 rfl rfl dX4_alike_71 ?_
    refine z_get (pc := 74) (ci := 0) C (.ref (h 0 13)) bi_X0 rfl 2 12 (by decide) rfl bf_X4_83 rfl rfl dX4_alike_74 ?_
    refine z_iload (pc := 77) C 6 dX4_alike_77 rfl ?_
    obtain ⟨hv3, hf⟩ := bb_g_some hf
    refine z_iald (pc := 79) C 6 0 (x6.toNatClampNeg) rfl rfl hv3 rfl dX4_alike_79 ?_
    refine z_ixor (pc := 80) C dX4_alike_80 ?_
    obtain ⟨q4, hq4, hf⟩ := bb_b_some hf
    refine z_callSi (pc := 81) (As := [.int ((((s0 0)).2.1 12 x5.toNatClampNeg) ^^^ (((s0 0)).2.1 12 x6.toNatClampNeg))]) (rest := []) C (hR.le (by decide)) (c_J6_bitCount_0f7a4 hq4) (bb_cut_none _) bv_J6_bitCount_0f7a4 bm_X4_174 rfl rfl (Nat.le_of_ble_eq_true rfl) dX4_alike_81 ?_
    refine z_iload_n (pc := 84) (i := 1) C 1 dX4_alike_84 rfl rfl ?_
    refine z_icmp_gt (pc := 85) C 110 dX4_alike_85 (by decide) (fun hc5 => ?_) (fun hc5 => ?_)
    · have hf := bb_t hf hc5
      exact B_X4_alike_110 C hR hr h R hk30 hk48 hf
    · have hf := bb_e hf hc5
      refine z_iload_n (pc := 88) (i := 3) C 3 dX4_alike_88 rfl rfl ?_
      refine z_if_ne (pc := 89) C 103 dX4_alike_89 (by decide) (fun hc6 => ?_) (fun hc6 => ?_)
      · have hf := bb_e hf hc6
        refine z_iload (pc := 103) C 4 dX4_alike_103 rfl ?_
        refine z_lv [0, 1, 2, 3, 5, 6] rfl ?_
        exact B_X4_alike_105 C hR hr h R hk30 hk48 hf
      · have hf := bb_t hf hc6
        refine z_bipush (pc := 92) C (10 : Int32) dX4_alike_92 (by decide) ?_
        refine z_iload (pc := 94) C 5 dX4_alike_94 rfl ?_
        refine z_imul (pc := 96) C dX4_alike_96 ?_
        refine z_iload (pc := 97) C 6 dX4_alike_97 rfl ?_
        refine z_iadd (pc := 99) C dX4_alike_99 ?_
        refine z_goto (pc := 100) C 105 dX4_alike_100 (by decide) ?_
        refine z_lv [0, 1, 2, 3, 5, 6] rfl ?_
        exact B_X4_alike_105 C hR hr h R hk30 hk48 hf
theorem B_X4_alike_48 {X : bb_X} (C : bb_C X RX4 cX4_alike 7) (hR : bb_r X 2) (hr : X.meth.sig.returnType = (some .int)) (h : Nat → Nat → Nat) {z : Int32} {s0 : bb_H} (R : bb_R X (some (.int z)) (wX4 X.cs h s0)) {k30 : Int32 → Int32 → Int32 → Int32 → Int32 → Option Int32} (hk30 : ∀ (x1 : Int32) (x2 : Int32) (x3 : Int32) (x4 : Int32) (x5 : Int32), k30 x1 x2 x3 x4 x5 = some z → bb_Z X 7 (wX4 X.cs h s0) 30 [(0, .ref (h 5 0)), (1, .int x1), (2, .int x2), (3, .int x3), (4, .int x4), (5, .int x5)] []) : ∀ (n : Nat) (x1 : Int32) (x2 : Int32) (x3 : Int32) (x4 : Int32) (x5 : Int32) (x6 : Int32), F_X4_alike_48 s0 k30 n x1 x2 x3 x4 x5 x6 = some z → bb_Z X 7 (wX4 X.cs h s0) 48 [(0, .ref (h 5 0)), (1, .int x1), (2, .int x2), (3, .int x3), (4, .int x4), (5, .int x5), (6, .int x6)] [] := by
  intro n
  induction n with
  | zero =>
    intro x1 x2 x3 x4 x5 x6 hf
    cases hf
  | succ n ih =>
    intro x1 x2 x3 x4 x5 x6 hf
    exact A_X4_alike_48 C hR hr h R hk30 ih hf
noncomputable def G_X4_alike_30 (s0 : bb_H) (k30 : Int32 → Int32 → Int32 → Int32 → Int32 → Option Int32) (x1 : Int32) (x2 : Int32) (x3 : Int32) (x4 : Int32) (x5 : Int32) : Option Int32 := if (((s0 0)).1 2) ≤ x5 then (if x2 = 0 then (F_X4_alike_132 s0 x3) else (F_X4_alike_132 s0 x4)) else (F_X4_alike_48 s0 k30 bb_N x1 x2 x3 x4 x5 (x5 + ((1 : Int32))))
noncomputable def F_X4_alike_30 (s0 : bb_H) : Nat → Int32 → Int32 → Int32 → Int32 → Int32 → Option Int32
  | 0, _, _, _, _, _ => none
  | n + 1, x1, x2, x3, x4, x5 => G_X4_alike_30 s0 (F_X4_alike_30 s0 n) x1 x2 x3 x4 x5
set_option maxHeartbeats 4000000 in
set_option maxRecDepth 100000 in
theorem A_X4_alike_30 {X : bb_X} (C : bb_C X RX4 cX4_alike 7) (hR : bb_r X 2) (hr : X.meth.sig.returnType = (some .int)) (h : Nat → Nat → Nat) {z : Int32} {s0 : bb_H} (R : bb_R X (some (.int z)) (wX4 X.cs h s0)) {k30 : Int32 → Int32 → Int32 → Int32 → Int32 → Option Int32} (hk30 : ∀ (x1 : Int32) (x2 : Int32) (x3 : Int32) (x4 : Int32) (x5 : Int32), k30 x1 x2 x3 x4 x5 = some z → bb_Z X 7 (wX4 X.cs h s0) 30 [(0, .ref (h 5 0)), (1, .int x1), (2, .int x2), (3, .int x3), (4, .int x4), (5, .int x5)] []) {x1 : Int32} {x2 : Int32} {x3 : Int32} {x4 : Int32} {x5 : Int32} (hf : G_X4_alike_30 s0 k30 x1 x2 x3 x4 x5 = some z) : bb_Z X 7 (wX4 X.cs h s0) 30 [(0, .ref (h 5 0)), (1, .int x1), (2, .int x2), (3, .int x3), (4, .int x4), (5, .int x5)] [] := by
  refine z_iload (pc := 30) C 5 dX4_alike_30 rfl ?_
  refine z_aload_n (pc := 32) (i := 0) C 0 dX4_alike_32 rfl rfl ?_
  refine z_get (pc := 33) (ci := 4) C (.ref (h 0 0)) bi_X4 rfl 0 0 (by decide) rfl bf_X4_10 rfl rfl dX4_alike_33 ?_
  refine z_get (pc := 36) (ci := 0) C (.int (((s0 0)).1 2)) bi_X0 rfl 2 2 (by decide) rfl bf_X4_61 rfl rfl dX4_alike_36 ?_
  refine z_icmp_ge (pc := 39) C 122 dX4_alike_39 (by decide) (fun hc1 => ?_) (fun hc1 => ?_)
  · have hf := bb_t hf hc1
    refine z_iload_n (pc := 122) (i := 2) C 2 dX4_alike_122 rfl rfl ?_
    refine z_if_ne (pc := 123) C 130 dX4_alike_123 (by decide) (fun hc2 => ?_) (fun hc2 => ?_)
    · have hf := bb_e hf hc2
      refine z_iload (pc := 130) C 4 dX4_alike_130 rfl ?_
      refine z_lv [] rfl ?_
      exact B_X4_alike_132 C hR hr h R  hf
    · have hf := bb_t hf hc2
      refine z_iload_n (pc := 126) (i := 3) C 3 dX4_alike_126 rfl rfl ?_
      refine z_goto (pc := 127) C 132 dX4_alike_127 (by decide) ?_
      refine z_lv [] rfl ?_
      exact B_X4_alike_132 C hR hr h R  hf
  · have hf := bb_e hf hc1
    refine z_iload (pc := 42) C 5 dX4_alike_42 rfl ?_
    refine z_iconst (pc := 44) C (1 : Int32) dX4_alike_44 (by decide) ?_
    refine z_iadd (pc := 45) C dX4_alike_45 ?_
    refine z_istore (pc := 46) (lv' := [(6, .int (x5 + ((1 : Int32)))), (0, .ref (h 5 0)), (1, .int x1), (2, .int x2), (3, .int x3), (4, .int x4), (5, .int x5)]) C dX4_alike_46 (by decide) rfl ?_
    refine z_lv [1, 2, 3, 4, 5, 6, 0] rfl ?_
    exact B_X4_alike_48 C hR hr h R hk30 bb_N _ _ _ _ _ _ hf
theorem B_X4_alike_30 {X : bb_X} (C : bb_C X RX4 cX4_alike 7) (hR : bb_r X 2) (hr : X.meth.sig.returnType = (some .int)) (h : Nat → Nat → Nat) {z : Int32} {s0 : bb_H} (R : bb_R X (some (.int z)) (wX4 X.cs h s0)) : ∀ (n : Nat) (x1 : Int32) (x2 : Int32) (x3 : Int32) (x4 : Int32) (x5 : Int32), F_X4_alike_30 s0 n x1 x2 x3 x4 x5 = some z → bb_Z X 7 (wX4 X.cs h s0) 30 [(0, .ref (h 5 0)), (1, .int x1), (2, .int x2), (3, .int x3), (4, .int x4), (5, .int x5)] [] := by
  intro n
  induction n with
  | zero =>
    intro x1 x2 x3 x4 x5 hf
    cases hf
  | succ n ih =>
    intro x1 x2 x3 x4 x5 hf
    exact A_X4_alike_30 C hR hr h R  ih hf
noncomputable def F_X4_alike_0 (s0 : bb_H) (x1 : Int32) (x2 : Int32) : Option Int32 := (F_X4_outside_0 x1 ((0 : Int32)) ((6 : Int32))).bind (fun q1 => if q1 = 0 then ((F_X4_outside_0 x2 ((0 : Int32)) ((1 : Int32))).bind (fun q3 => if q3 = 0 then (F_X4_alike_30 s0 bb_N x1 x2 ((0 : Int32)) ((-4 : Int32)) ((0 : Int32))) else (F_X4_alike_19 s0))) else (F_X4_alike_19 s0))
set_option maxHeartbeats 4000000 in
set_option maxRecDepth 100000 in
theorem B_X4_alike_0 {X : bb_X} (C : bb_C X RX4 cX4_alike 7) (hR : bb_r X 2) (hr : X.meth.sig.returnType = (some .int)) (h : Nat → Nat → Nat) {z : Int32} {s0 : bb_H} (R : bb_R X (some (.int z)) (wX4 X.cs h s0)) {x1 : Int32} {x2 : Int32} (hf : F_X4_alike_0 s0 x1 x2 = some z) : bb_Z X 7 (wX4 X.cs h s0) 0 [(0, .ref (h 5 0)), (1, .int x1), (2, .int x2)] [] := by
  refine z_iload_n (pc := 0) (i := 1) C 1 dX4_alike_0 rfl rfl ?_
  refine z_iconst (pc := 1) C (0 : Int32) dX4_alike_1 (by decide) ?_
  refine z_bipush (pc := 2) C (6 : Int32) dX4_alike_2 (by decide) ?_
  obtain ⟨q1, hq1, hf⟩ := bb_b_some hf
  refine z_callSi (pc := 4) (As := [.int x1, .int ((0 : Int32)), .int ((6 : Int32))]) (rest := []) C (hR.le (by decide)) (c_X4_outside hq1) (bb_cut_none _) bv_X4_outside bm_X4_46 rfl rfl (Nat.le_of_ble_eq_true rfl) dX4_alike_4 ?_
  refine z_if_ne (pc := 7) C 19 dX4_alike_7 (by decide) (fun hc2 => ?_) (fun hc2 => ?_)
  · have hf := bb_e hf hc2
    refine z_lv [] rfl ?_
    exact B_X4_alike_19 C hR hr h R  hf
  · have hf := bb_t hf hc2
    refine z_iload_n (pc := 10) (i := 2) C 2 dX4_alike_10 rfl rfl ?_
    refine z_iconst (pc := 11) C (0 : Int32) dX4_alike_11 (by decide) ?_
    refine z_iconst (pc := 12) C (1 : Int32) dX4_alike_12 (by decide) ?_
    obtain ⟨q3, hq3, hf⟩ := bb_b_some hf
    refine z_callSi (pc := 13) (As := [.int x2, .int ((0 : Int32)), .int ((1 : Int32))]) (rest := []) C (hR.le (by decide)) (c_X4_outside hq3) (bb_cut_none _) bv_X4_outside bm_X4_46 rfl rfl (Nat.le_of_ble_eq_true rfl) dX4_alike_13 ?_
    refine z_if_eq (pc := 16) C 21 dX4_alike_16 (by decide) (fun hc4 => ?_) (fun hc4 => ?_)
    · have hf := bb_t hf hc4
      refine z_iconst (pc := 21) C (0 : Int32) dX4_alike_21 (by decide) ?_
      refine z_istore_n (pc := 22) (i := 3) (lv' := [(3, .int ((0 : Int32))), (0, .ref (h 5 0)), (1, .int x1), (2, .int x2)]) C dX4_alike_22 rfl (by decide) rfl ?_
      refine z_bipush (pc := 23) C (-4 : Int32) dX4_alike_23 (by decide) ?_
      refine z_istore (pc := 25) (lv' := [(4, .int ((-4 : Int32))), (3, .int ((0 : Int32))), (0, .ref (h 5 0)), (1, .int x1), (2, .int x2)]) C dX4_alike_25 (by decide) rfl ?_
      refine z_iconst (pc := 27) C (0 : Int32) dX4_alike_27 (by decide) ?_
      refine z_istore (pc := 28) (lv' := [(5, .int ((0 : Int32))), (4, .int ((-4 : Int32))), (3, .int ((0 : Int32))), (0, .ref (h 5 0)), (1, .int x1), (2, .int x2)]) C dX4_alike_28 (by decide) rfl ?_
      refine z_lv [3, 4, 5, 2, 1, 0] rfl ?_
      exact B_X4_alike_30 C hR hr h R  bb_N _ _ _ _ _ hf
    · have hf := bb_e hf hc4
      refine z_lv [] rfl ?_
      exact B_X4_alike_19 C hR hr h R  hf
theorem c_X4_alike {l : Launch} {D : va_G} {cs : Nat → ClassId} (h : Nat → Nat → Nat) {s0 : bb_H} {x1 : Int32} {x2 : Int32} {z : Int32} (hf : F_X4_alike_0 s0 x1 x2 = some z) : bb_M l yX4_alike cX4_alike 7 (some .int) 2 D cs [.ref (h 5 0), .int x1, .int x2] (some (.int z)) (wX4 cs h s0) (wX4 cs h s0) := bb_mg (by decide) rfl (Nat.le_of_ble_eq_true rfl) rfl (fun X hl hD hcs C hR hr R => by
  subst hl
  subst hD
  subst hcs
  exact B_X4_alike_0 C hR hr h R hf)
/-! X4_turned: writes, level 7 -/
noncomputable def F_X4_turned_17 (s0 : bb_H) : Option (Int32 × bb_H) := some ((-1 : Int32), s0)
set_option maxHeartbeats 4000000 in
set_option maxRecDepth 100000 in
theorem B_X4_turned_17 {X : bb_X} (C : bb_C X RX4 cX4_turned 6) (hR : bb_r X 7) (hr : X.meth.sig.returnType = (some .int)) (h : Nat → Nat → Nat) {z : (Int32 × bb_H)} (R : bb_R X (some (.int z.1)) (wX4 X.cs h z.2)) {s0 : bb_H} (hf : F_X4_turned_17 s0 = some z) : bb_Z X 6 (wX4 X.cs h s0) 17 [] [] := by
  refine z_iconst (pc := 17) C (-1 : Int32) dX4_turned_17 (by decide) ?_
  obtain rfl := Option.some.inj hf
  exact z_iret (pc := 18) C hr R dX4_turned_18
noncomputable def F_X4_turned_103 (s0 : bb_H) (y0 : Int32) : Option (Int32 × bb_H) := some (y0, s0)
set_option maxHeartbeats 4000000 in
set_option maxRecDepth 100000 in
theorem B_X4_turned_103 {X : bb_X} (C : bb_C X RX4 cX4_turned 6) (hR : bb_r X 7) (hr : X.meth.sig.returnType = (some .int)) (h : Nat → Nat → Nat) {z : (Int32 × bb_H)} (R : bb_R X (some (.int z.1)) (wX4 X.cs h z.2)) {s0 : bb_H} {y0 : Int32} (hf : F_X4_turned_103 s0 y0 = some z) : bb_Z X 6 (wX4 X.cs h s0) 103 [] [.int y0] := by
  obtain rfl := Option.some.inj hf
  exact z_iret (pc := 103) C hr R dX4_turned_103
noncomputable def F_X4_turned_87 (k28 : bb_H → Int32 → Int32 → Int32 → Int32 → Int32 → Option (Int32 × bb_H)) (s0 : bb_H) (x1 : Int32) (x2 : Int32) (x3 : Int32) (x4 : Int32) (x5 : Int32) : Option (Int32 × bb_H) := k28 s0 x1 x2 x3 x4 (x5 + 1)
set_option maxHeartbeats 4000000 in
set_option maxRecDepth 100000 in
theorem B_X4_turned_87 {X : bb_X} (C : bb_C X RX4 cX4_turned 6) (hR : bb_r X 7) (hr : X.meth.sig.returnType = (some .int)) (h : Nat → Nat → Nat) {z : (Int32 × bb_H)} (R : bb_R X (some (.int z.1)) (wX4 X.cs h z.2)) {k28 : bb_H → Int32 → Int32 → Int32 → Int32 → Int32 → Option (Int32 × bb_H)} (hk28 : ∀ (s0 : bb_H) (x1 : Int32) (x2 : Int32) (x3 : Int32) (x4 : Int32) (x5 : Int32), k28 s0 x1 x2 x3 x4 x5 = some z → bb_Z X 6 (wX4 X.cs h s0) 28 [(0, .ref (h 5 0)), (1, .int x1), (2, .int x2), (3, .int x3), (4, .int x4), (5, .int x5)] []) {s0 : bb_H} {x1 : Int32} {x2 : Int32} {x3 : Int32} {x4 : Int32} {x5 : Int32} (hf : F_X4_turned_87 k28 s0 x1 x2 x3 x4 x5 = some z) : bb_Z X 6 (wX4 X.cs h s0) 87 [(0, .ref (h 5 0)), (1, .int x1), (2, .int x2), (3, .int x3), (4, .int x4), (5, .int x5)] [] := by
  refine z_iinc (pc := 87) (lv' := [(5, .int (x5 + 1)), (0, .ref (h 5 0)), (1, .int x1), (2, .int x2), (3, .int x3), (4, .int x4)]) C (x5 + 1) 5 dX4_turned_87 rfl rfl (by decide) rfl ?_
  refine z_goto (pc := 90) C 28 dX4_turned_90 (by decide) ?_
  refine z_lv [1, 2, 3, 4, 5, 0] rfl ?_
  exact hk28 _ _ _ _ _ _ hf
noncomputable def F_X4_turned_82 (k28 : bb_H → Int32 → Int32 → Int32 → Int32 → Int32 → Option (Int32 × bb_H)) (s0 : bb_H) (x1 : Int32) (x2 : Int32) (x3 : Int32) (x5 : Int32) (y0 : Int32) : Option (Int32 × bb_H) := F_X4_turned_87 k28 s0 x1 x2 (x3 + 1) y0 x5
set_option maxHeartbeats 4000000 in
set_option maxRecDepth 100000 in
theorem B_X4_turned_82 {X : bb_X} (C : bb_C X RX4 cX4_turned 6) (hR : bb_r X 7) (hr : X.meth.sig.returnType = (some .int)) (h : Nat → Nat → Nat) {z : (Int32 × bb_H)} (R : bb_R X (some (.int z.1)) (wX4 X.cs h z.2)) {k28 : bb_H → Int32 → Int32 → Int32 → Int32 → Int32 → Option (Int32 × bb_H)} (hk28 : ∀ (s0 : bb_H) (x1 : Int32) (x2 : Int32) (x3 : Int32) (x4 : Int32) (x5 : Int32), k28 s0 x1 x2 x3 x4 x5 = some z → bb_Z X 6 (wX4 X.cs h s0) 28 [(0, .ref (h 5 0)), (1, .int x1), (2, .int x2), (3, .int x3), (4, .int x4), (5, .int x5)] []) {s0 : bb_H} {x1 : Int32} {x2 : Int32} {x3 : Int32} {x5 : Int32} {y0 : Int32} (hf : F_X4_turned_82 k28 s0 x1 x2 x3 x5 y0 = some z) : bb_Z X 6 (wX4 X.cs h s0) 82 [(0, .ref (h 5 0)), (1, .int x1), (2, .int x2), (3, .int x3), (5, .int x5)] [.int y0] := by
  refine z_istore (pc := 82) (lv' := [(4, .int y0), (0, .ref (h 5 0)), (1, .int x1), (2, .int x2), (3, .int x3), (5, .int x5)]) C dX4_turned_82 (by decide) rfl ?_
  refine z_iinc (pc := 84) (lv' := [(3, .int (x3 + 1)), (4, .int y0), (0, .ref (h 5 0)), (1, .int x1), (2, .int x2), (5, .int x5)]) C (x3 + 1) 4 dX4_turned_84 rfl rfl (by decide) rfl ?_
  refine z_lv [2, 3, 4, 0, 1, 5] rfl ?_
  exact B_X4_turned_87 C hR hr h R hk28 hf
noncomputable def F_X4_turned_60 (k28 : bb_H → Int32 → Int32 → Int32 → Int32 → Int32 → Option (Int32 × bb_H)) (s0 : bb_H) (x1 : Int32) (x2 : Int32) (x3 : Int32) (x4 : Int32) (x5 : Int32) : Option (Int32 × bb_H) := (F_X0_passUntilCaught_0 ((s0 2))).bind (fun q1 => if q1.1 = x1 then (if x3 = 0 then (F_X4_turned_82 k28 (va_up s0 2 q1.2) x1 x2 x3 x5 x5) else (F_X4_turned_82 k28 (va_up s0 2 q1.2) x1 x2 x3 x5 x4)) else (F_X4_turned_87 k28 (va_up s0 2 q1.2) x1 x2 x3 x4 x5))
set_option maxHeartbeats 4000000 in
set_option maxRecDepth 100000 in
theorem B_X4_turned_60 {X : bb_X} (C : bb_C X RX4 cX4_turned 6) (hR : bb_r X 7) (hr : X.meth.sig.returnType = (some .int)) (h : Nat → Nat → Nat) {z : (Int32 × bb_H)} (R : bb_R X (some (.int z.1)) (wX4 X.cs h z.2)) {k28 : bb_H → Int32 → Int32 → Int32 → Int32 → Int32 → Option (Int32 × bb_H)} (hk28 : ∀ (s0 : bb_H) (x1 : Int32) (x2 : Int32) (x3 : Int32) (x4 : Int32) (x5 : Int32), k28 s0 x1 x2 x3 x4 x5 = some z → bb_Z X 6 (wX4 X.cs h s0) 28 [(0, .ref (h 5 0)), (1, .int x1), (2, .int x2), (3, .int x3), (4, .int x4), (5, .int x5)] []) {s0 : bb_H} {x1 : Int32} {x2 : Int32} {x3 : Int32} {x4 : Int32} {x5 : Int32} (hf : F_X4_turned_60 k28 s0 x1 x2 x3 x4 x5 = some z) : bb_Z X 6 (wX4 X.cs h s0) 60 [(0, .ref (h 5 0)), (1, .int x1), (2, .int x2), (3, .int x3), (4, .int x4), (5, .int x5)] [] := by
  refine z_aload_n (pc := 60) (i := 0) C 0 dX4_turned_60 rfl rfl ?_
  refine z_get (pc := 61) (ci := 4) C (.ref (h 2 0)) bi_X4 rfl 0 2 (by decide) rfl bf_X4_23 rfl rfl dX4_turned_61 ?_
  obtain ⟨q1, hq1, hf⟩ := bb_b_some hf
  refine z_callVi (pc := 64) (ci := 0) (q0 := 0) (As := []) (rest := []) (ws' := wX4 X.cs h (va_up s0 2 q1.2)) C (hR.le (by decide)) (c_X0_passUntilCaught (h 2) hq1) (cut_X4_2 _ _ _ _) bv_X0_passUntilCaught bm_X4_168 rfl rfl rfl rfl (Nat.le_of_ble_eq_true rfl) dX4_turned_64 ?_
  refine z_iload_n (pc := 67) (i := 1) C 1 dX4_turned_67 rfl rfl ?_
  refine z_icmp_ne (pc := 68) C 87 dX4_turned_68 (by decide) (fun hc2 => ?_) (fun hc2 => ?_)
  · have hf := bb_e hf hc2
    exact B_X4_turned_87 C hR hr h R hk28 hf
  · have hf := bb_t hf hc2
    refine z_iload_n (pc := 71) (i := 3) C 3 dX4_turned_71 rfl rfl ?_
    refine z_if_ne (pc := 72) C 80 dX4_turned_72 (by decide) (fun hc3 => ?_) (fun hc3 => ?_)
    · have hf := bb_e hf hc3
      refine z_iload (pc := 80) C 4 dX4_turned_80 rfl ?_
      refine z_lv [0, 1, 2, 3, 5] rfl ?_
      exact B_X4_turned_82 C hR hr h R hk28 hf
    · have hf := bb_t hf hc3
      refine z_iload (pc := 75) C 5 dX4_turned_75 rfl ?_
      refine z_goto (pc := 77) C 82 dX4_turned_77 (by decide) ?_
      refine z_lv [0, 1, 2, 3, 5] rfl ?_
      exact B_X4_turned_82 C hR hr h R hk28 hf
noncomputable def G_X4_turned_28 (k28 : bb_H → Int32 → Int32 → Int32 → Int32 → Int32 → Option (Int32 × bb_H)) (s0 : bb_H) (x1 : Int32) (x2 : Int32) (x3 : Int32) (x4 : Int32) (x5 : Int32) : Option (Int32 × bb_H) := (F_X0_cells_0 ((s0 0))).bind (fun q1 => if q1 ≤ x5 then (if x2 = 0 then (F_X4_turned_103 s0 x3) else (F_X4_turned_103 s0 x4)) else ((F_X0_take_0 ((s0 2)) ((s0 0))).bind (fun q4 => F_X4_turned_60 k28 (va_up (va_up (va_up s0 2 q4.1) 0 q4.2) 2 (bb_sf (((va_up (va_up s0 2 q4.1) 0 q4.2) 2)) 3 x5)) x1 x2 x3 x4 x5)))
noncomputable def F_X4_turned_28  : Nat → bb_H → Int32 → Int32 → Int32 → Int32 → Int32 → Option (Int32 × bb_H)
  | 0, _, _, _, _, _, _ => none
  | n + 1, s0, x1, x2, x3, x4, x5 => G_X4_turned_28  (F_X4_turned_28  n) s0 x1 x2 x3 x4 x5
set_option maxHeartbeats 4000000 in
set_option maxRecDepth 100000 in
theorem A_X4_turned_28 {X : bb_X} (C : bb_C X RX4 cX4_turned 6) (hR : bb_r X 7) (hr : X.meth.sig.returnType = (some .int)) (h : Nat → Nat → Nat) {z : (Int32 × bb_H)} (R : bb_R X (some (.int z.1)) (wX4 X.cs h z.2)) {k28 : bb_H → Int32 → Int32 → Int32 → Int32 → Int32 → Option (Int32 × bb_H)} (hk28 : ∀ (s0 : bb_H) (x1 : Int32) (x2 : Int32) (x3 : Int32) (x4 : Int32) (x5 : Int32), k28 s0 x1 x2 x3 x4 x5 = some z → bb_Z X 6 (wX4 X.cs h s0) 28 [(0, .ref (h 5 0)), (1, .int x1), (2, .int x2), (3, .int x3), (4, .int x4), (5, .int x5)] []) {s0 : bb_H} {x1 : Int32} {x2 : Int32} {x3 : Int32} {x4 : Int32} {x5 : Int32} (hf : G_X4_turned_28 k28 s0 x1 x2 x3 x4 x5 = some z) : bb_Z X 6 (wX4 X.cs h s0) 28 [(0, .ref (h 5 0)), (1, .int x1), (2, .int x2), (3, .int x3), (4, .int x4), (5, .int x5)] [] := by
  refine z_iload (pc := 28) C 5 dX4_turned_28 rfl ?_
  refine z_aload_n (pc := 30) (i := 0) C 0 dX4_turned_30 rfl rfl ?_
  refine z_get (pc := 31) (ci := 4) C (.ref (h 0 0)) bi_X4 rfl 0 0 (by decide) rfl bf_X4_10 rfl rfl dX4_turned_31 ?_
  obtain ⟨q1, hq1, hf⟩ := bb_b_some hf
  refine z_callVi (pc := 34) (ci := 0) (q0 := 0) (As := []) (rest := [.int x5]) C (hR.le (by decide)) (c_X0_cells (h 0) hq1) (cutp_X4_0 _ _ _) bv_X0_cells bm_X4_57 rfl rfl rfl rfl (Nat.le_of_ble_eq_true rfl) dX4_turned_34 ?_
  refine z_icmp_ge (pc := 37) C 93 dX4_turned_37 (by decide) (fun hc2 => ?_) (fun hc2 => ?_)
  · have hf := bb_t hf hc2
    refine z_iload_n (pc := 93) (i := 2) C 2 dX4_turned_93 rfl rfl ?_
    refine z_if_ne (pc := 94) C 101 dX4_turned_94 (by decide) (fun hc3 => ?_) (fun hc3 => ?_)
    · have hf := bb_e hf hc3
      refine z_iload (pc := 101) C 4 dX4_turned_101 rfl ?_
      refine z_lv [] rfl ?_
      exact B_X4_turned_103 C hR hr h R  hf
    · have hf := bb_t hf hc3
      refine z_iload_n (pc := 97) (i := 3) C 3 dX4_turned_97 rfl rfl ?_
      refine z_goto (pc := 98) C 103 dX4_turned_98 (by decide) ?_
      refine z_lv [] rfl ?_
      exact B_X4_turned_103 C hR hr h R  hf
  · have hf := bb_e hf hc2
    refine z_aload_n (pc := 40) (i := 0) C 0 dX4_turned_40 rfl rfl ?_
    refine z_get (pc := 41) (ci := 4) C (.ref (h 2 0)) bi_X4 rfl 0 2 (by decide) rfl bf_X4_23 rfl rfl dX4_turned_41 ?_
    refine z_aload_n (pc := 44) (i := 0) C 0 dX4_turned_44 rfl rfl ?_
    refine z_get (pc := 45) (ci := 4) C (.ref (h 0 0)) bi_X4 rfl 0 0 (by decide) rfl bf_X4_10 rfl rfl dX4_turned_45 ?_
    obtain ⟨q4, hq4, hf⟩ := bb_b_some hf
    refine z_callVv (pc := 48) (ci := 0) (q0 := 0) (As := [.ref (h 0 0)]) (rest := []) (ws' := wX4 X.cs h (va_up (va_up s0 2 q4.1) 0 q4.2)) C (hR.le (by decide)) (c_X0_take (h 2) (h 0) hq4) (cut_X4_2_0 _ _ _ _ _) bv_X0_take bm_X4_111 rfl rfl rfl rfl (Nat.le_of_ble_eq_true rfl) dX4_turned_48 ?_
    refine z_aload_n (pc := 51) (i := 0) C 0 dX4_turned_51 rfl rfl ?_
    refine z_get (pc := 52) (ci := 4) C (.ref (h 2 0)) bi_X4 rfl 0 2 (by decide) rfl bf_X4_23 rfl rfl dX4_turned_52 ?_
    refine z_iload (pc := 55) C 5 dX4_turned_55 rfl ?_
    refine z_put (pc := 57) (ci := 0) (ty := .int) (ws' := wX4 X.cs h (va_up (va_up (va_up s0 2 q4.1) 0 q4.2) 2 (bb_sf (((va_up (va_up s0 2 q4.1) 0 q4.2) 2)) 3 x5))) C bi_X0 tyX0_ok nmX0 rfl 18 3 (by decide) rfl bf_X4_128 rfl rfl rfl rfl rfl (Nat.le_of_ble_eq_true rfl) rfl dX4_turned_57 ?_
    exact B_X4_turned_60 C hR hr h R hk28 hf
theorem B_X4_turned_28 {X : bb_X} (C : bb_C X RX4 cX4_turned 6) (hR : bb_r X 7) (hr : X.meth.sig.returnType = (some .int)) (h : Nat → Nat → Nat) {z : (Int32 × bb_H)} (R : bb_R X (some (.int z.1)) (wX4 X.cs h z.2)) : ∀ (n : Nat) (s0 : bb_H) (x1 : Int32) (x2 : Int32) (x3 : Int32) (x4 : Int32) (x5 : Int32), F_X4_turned_28  n s0 x1 x2 x3 x4 x5 = some z → bb_Z X 6 (wX4 X.cs h s0) 28 [(0, .ref (h 5 0)), (1, .int x1), (2, .int x2), (3, .int x3), (4, .int x4), (5, .int x5)] [] := by
  intro n
  induction n with
  | zero =>
    intro s0 x1 x2 x3 x4 x5 hf
    cases hf
  | succ n ih =>
    intro s0 x1 x2 x3 x4 x5 hf
    exact A_X4_turned_28 C hR hr h R  ih hf
noncomputable def F_X4_turned_0 (s0 : bb_H) (x1 : Int32) (x2 : Int32) : Option (Int32 × bb_H) := (F_X4_isNobody_0 s0 x1).bind (fun q1 => if q1 = 0 then ((F_X4_outside_0 x2 ((0 : Int32)) ((1 : Int32))).bind (fun q3 => if q3 = 0 then (F_X4_turned_28 bb_N s0 x1 x2 ((0 : Int32)) ((-4 : Int32)) ((0 : Int32))) else (F_X4_turned_17 s0))) else (F_X4_turned_17 s0))
set_option maxHeartbeats 4000000 in
set_option maxRecDepth 100000 in
theorem B_X4_turned_0 {X : bb_X} (C : bb_C X RX4 cX4_turned 6) (hR : bb_r X 7) (hr : X.meth.sig.returnType = (some .int)) (h : Nat → Nat → Nat) {z : (Int32 × bb_H)} (R : bb_R X (some (.int z.1)) (wX4 X.cs h z.2)) {s0 : bb_H} {x1 : Int32} {x2 : Int32} (hf : F_X4_turned_0 s0 x1 x2 = some z) : bb_Z X 6 (wX4 X.cs h s0) 0 [(0, .ref (h 5 0)), (1, .int x1), (2, .int x2)] [] := by
  refine z_aload_n (pc := 0) (i := 0) C 0 dX4_turned_0 rfl rfl ?_
  refine z_iload_n (pc := 1) (i := 1) C 1 dX4_turned_1 rfl rfl ?_
  obtain ⟨q1, hq1, hf⟩ := bb_b_some hf
  refine z_callVi (pc := 2) (ci := 4) (q0 := 0) (As := [.int x1]) (rest := []) C (hR.le (by decide)) (c_X4_isNobody h hq1) (bb_cut_self _ _) bv_X4_isNobody bm_X4_69 rfl rfl rfl rfl (Nat.le_of_ble_eq_true rfl) dX4_turned_2 ?_
  refine z_if_ne (pc := 5) C 17 dX4_turned_5 (by decide) (fun hc2 => ?_) (fun hc2 => ?_)
  · have hf := bb_e hf hc2
    refine z_lv [] rfl ?_
    exact B_X4_turned_17 C hR hr h R  hf
  · have hf := bb_t hf hc2
    refine z_iload_n (pc := 8) (i := 2) C 2 dX4_turned_8 rfl rfl ?_
    refine z_iconst (pc := 9) C (0 : Int32) dX4_turned_9 (by decide) ?_
    refine z_iconst (pc := 10) C (1 : Int32) dX4_turned_10 (by decide) ?_
    obtain ⟨q3, hq3, hf⟩ := bb_b_some hf
    refine z_callSi (pc := 11) (As := [.int x2, .int ((0 : Int32)), .int ((1 : Int32))]) (rest := []) C (hR.le (by decide)) (c_X4_outside hq3) (bb_cut_none _) bv_X4_outside bm_X4_46 rfl rfl (Nat.le_of_ble_eq_true rfl) dX4_turned_11 ?_
    refine z_if_eq (pc := 14) C 19 dX4_turned_14 (by decide) (fun hc4 => ?_) (fun hc4 => ?_)
    · have hf := bb_t hf hc4
      refine z_iconst (pc := 19) C (0 : Int32) dX4_turned_19 (by decide) ?_
      refine z_istore_n (pc := 20) (i := 3) (lv' := [(3, .int ((0 : Int32))), (0, .ref (h 5 0)), (1, .int x1), (2, .int x2)]) C dX4_turned_20 rfl (by decide) rfl ?_
      refine z_bipush (pc := 21) C (-4 : Int32) dX4_turned_21 (by decide) ?_
      refine z_istore (pc := 23) (lv' := [(4, .int ((-4 : Int32))), (3, .int ((0 : Int32))), (0, .ref (h 5 0)), (1, .int x1), (2, .int x2)]) C dX4_turned_23 (by decide) rfl ?_
      refine z_iconst (pc := 25) C (0 : Int32) dX4_turned_25 (by decide) ?_
      refine z_istore (pc := 26) (lv' := [(5, .int ((0 : Int32))), (4, .int ((-4 : Int32))), (3, .int ((0 : Int32))), (0, .ref (h 5 0)), (1, .int x1), (2, .int x2)]) C dX4_turned_26 (by decide) rfl ?_
      refine z_lv [3, 4, 5, 2, 1, 0] rfl ?_
      exact B_X4_turned_28 C hR hr h R  bb_N _ _ _ _ _ _ hf
    · have hf := bb_e hf hc4
      refine z_lv [] rfl ?_
      exact B_X4_turned_17 C hR hr h R  hf
theorem c_X4_turned {l : Launch} {D : va_G} {cs : Nat → ClassId} (h : Nat → Nat → Nat) {s0 : bb_H} {x1 : Int32} {x2 : Int32} {z : (Int32 × bb_H)} (hf : F_X4_turned_0 s0 x1 x2 = some z) : bb_M l yX4_turned cX4_turned 6 (some .int) 7 D cs [.ref (h 5 0), .int x1, .int x2] (some (.int z.1)) (wX4 cs h s0) (wX4 cs h z.2) := bb_mg (by decide) rfl (Nat.le_of_ble_eq_true rfl) rfl (fun X hl hD hcs C hR hr R => by
  subst hl
  subst hD
  subst hcs
  exact B_X4_turned_0 C hR hr h R hf)
/-! X4_commonDivisor: reads, level 1 -/
noncomputable def F_X4_commonDivisor_34 (x2 : Int32) : Option Int32 := some x2
set_option maxHeartbeats 4000000 in
set_option maxRecDepth 100000 in
theorem B_X4_commonDivisor_34 {X : bb_X} (C : bb_C X RX4 cX4_commonDivisor 6) (hR : bb_r X 1) (hr : X.meth.sig.returnType = (some .int)) {z : Int32} (R : bb_R X (some (.int z)) ([])) {x2 : Int32} (hf : F_X4_commonDivisor_34 x2 = some z) : bb_Z X 6 ([]) 34 [(2, .int x2)] [] := by
  refine z_iload_n (pc := 34) (i := 2) C 0 dX4_commonDivisor_34 rfl rfl ?_
  obtain rfl := Option.some.inj hf
  exact z_iret (pc := 35) C hr R dX4_commonDivisor_35
noncomputable def G_X4_commonDivisor_7 (k7 : Int32 → Int32 → Int32 → Option Int32) (x2 : Int32) (x3 : Int32) (x4 : Int32) : Option Int32 := if ((64 : Int32)) ≤ x4 then (F_X4_commonDivisor_34 x2) else (if x3 = 0 then (F_X4_commonDivisor_34 x2) else (bb_g (¬ x3 = 0) (k7 x3 (x2 % x3) (x4 + 1))))
noncomputable def F_X4_commonDivisor_7  : Nat → Int32 → Int32 → Int32 → Option Int32
  | 0, _, _, _ => none
  | n + 1, x2, x3, x4 => G_X4_commonDivisor_7  (F_X4_commonDivisor_7  n) x2 x3 x4
set_option maxHeartbeats 4000000 in
set_option maxRecDepth 100000 in
theorem A_X4_commonDivisor_7 {X : bb_X} (C : bb_C X RX4 cX4_commonDivisor 6) (hR : bb_r X 1) (hr : X.meth.sig.returnType = (some .int)) {z : Int32} (R : bb_R X (some (.int z)) ([])) {k7 : Int32 → Int32 → Int32 → Option Int32} (hk7 : ∀ (x2 : Int32) (x3 : Int32) (x4 : Int32), k7 x2 x3 x4 = some z → bb_Z X 6 ([]) 7 [(2, .int x2), (3, .int x3), (4, .int x4)] []) {x2 : Int32} {x3 : Int32} {x4 : Int32} (hf : G_X4_commonDivisor_7 k7 x2 x3 x4 = some z) : bb_Z X 6 ([]) 7 [(2, .int x2), (3, .int x3), (4, .int x4)] [] := by
  refine z_iload (pc := 7) C 2 dX4_commonDivisor_7 rfl ?_
  refine z_bipush (pc := 9) C (64 : Int32) dX4_commonDivisor_9 (by decide) ?_
  refine z_icmp_ge (pc := 11) C 34 dX4_commonDivisor_11 (by decide) (fun hc1 => ?_) (fun hc1 => ?_)
  · have hf := bb_t hf hc1
    refine z_lv [0] rfl ?_
    exact B_X4_commonDivisor_34 C hR hr  R  hf
  · have hf := bb_e hf hc1
    refine z_iload_n (pc := 14) (i := 3) C 1 dX4_commonDivisor_14 rfl rfl ?_
    refine z_if_eq (pc := 15) C 34 dX4_commonDivisor_15 (by decide) (fun hc2 => ?_) (fun hc2 => ?_)
    · have hf := bb_t hf hc2
      refine z_lv [0] rfl ?_
      exact B_X4_commonDivisor_34 C hR hr  R  hf
    · have hf := bb_e hf hc2
      refine z_iload_n (pc := 18) (i := 2) C 0 dX4_commonDivisor_18 rfl rfl ?_
      refine z_iload_n (pc := 19) (i := 3) C 1 dX4_commonDivisor_19 rfl rfl ?_
      obtain ⟨hn3, hf⟩ := bb_g_some hf
      refine z_irem (pc := 20) C dX4_commonDivisor_20 hn3 ?_
      refine z_istore (pc := 21) (lv' := [(5, .int (x2 % x3)), (2, .int x2), (3, .int x3), (4, .int x4)]) C dX4_commonDivisor_21 (by decide) rfl ?_
      refine z_iload_n (pc := 23) (i := 3) C 2 dX4_commonDivisor_23 rfl rfl ?_
      refine z_istore_n (pc := 24) (i := 2) (lv' := [(2, .int x3), (5, .int (x2 % x3)), (3, .int x3), (4, .int x4)]) C dX4_commonDivisor_24 rfl (by decide) rfl ?_
      refine z_iload (pc := 25) C 1 dX4_commonDivisor_25 rfl ?_
      refine z_istore_n (pc := 27) (i := 3) (lv' := [(3, .int (x2 % x3)), (2, .int x3), (5, .int (x2 % x3)), (4, .int x4)]) C dX4_commonDivisor_27 rfl (by decide) rfl ?_
      refine z_iinc (pc := 28) (lv' := [(4, .int (x4 + 1)), (3, .int (x2 % x3)), (2, .int x3), (5, .int (x2 % x3))]) C (x4 + 1) 3 dX4_commonDivisor_28 rfl rfl (by decide) rfl ?_
      refine z_goto (pc := 31) C 7 dX4_commonDivisor_31 (by decide) ?_
      refine z_lv [2, 1, 0] rfl ?_
      exact hk7 _ _ _ hf
theorem B_X4_commonDivisor_7 {X : bb_X} (C : bb_C X RX4 cX4_commonDivisor 6) (hR : bb_r X 1) (hr : X.meth.sig.returnType = (some .int)) {z : Int32} (R : bb_R X (some (.int z)) ([])) : ∀ (n : Nat) (x2 : Int32) (x3 : Int32) (x4 : Int32), F_X4_commonDivisor_7  n x2 x3 x4 = some z → bb_Z X 6 ([]) 7 [(2, .int x2), (3, .int x3), (4, .int x4)] [] := by
  intro n
  induction n with
  | zero =>
    intro x2 x3 x4 hf
    cases hf
  | succ n ih =>
    intro x2 x3 x4 hf
    exact A_X4_commonDivisor_7 C hR hr  R  ih hf
noncomputable def F_X4_commonDivisor_0 (x0 : Int32) (x1 : Int32) : Option Int32 := F_X4_commonDivisor_7 bb_N x0 x1 ((0 : Int32))
set_option maxHeartbeats 4000000 in
set_option maxRecDepth 100000 in
theorem B_X4_commonDivisor_0 {X : bb_X} (C : bb_C X RX4 cX4_commonDivisor 6) (hR : bb_r X 1) (hr : X.meth.sig.returnType = (some .int)) {z : Int32} (R : bb_R X (some (.int z)) ([])) {x0 : Int32} {x1 : Int32} (hf : F_X4_commonDivisor_0 x0 x1 = some z) : bb_Z X 6 ([]) 0 [(0, .int x0), (1, .int x1)] [] := by
  refine z_iload_n (pc := 0) (i := 0) C 0 dX4_commonDivisor_0 rfl rfl ?_
  refine z_istore_n (pc := 1) (i := 2) (lv' := [(2, .int x0), (0, .int x0), (1, .int x1)]) C dX4_commonDivisor_1 rfl (by decide) rfl ?_
  refine z_iload_n (pc := 2) (i := 1) C 2 dX4_commonDivisor_2 rfl rfl ?_
  refine z_istore_n (pc := 3) (i := 3) (lv' := [(3, .int x1), (2, .int x0), (0, .int x0), (1, .int x1)]) C dX4_commonDivisor_3 rfl (by decide) rfl ?_
  refine z_iconst (pc := 4) C (0 : Int32) dX4_commonDivisor_4 (by decide) ?_
  refine z_istore (pc := 5) (lv' := [(4, .int ((0 : Int32))), (3, .int x1), (2, .int x0), (0, .int x0), (1, .int x1)]) C dX4_commonDivisor_5 (by decide) rfl ?_
  refine z_lv [2, 1, 0] rfl ?_
  exact B_X4_commonDivisor_7 C hR hr  R  bb_N _ _ _ hf
theorem c_X4_commonDivisor {l : Launch} {D : va_G} {cs : Nat → ClassId} {x0 : Int32} {x1 : Int32} {z : Int32} (hf : F_X4_commonDivisor_0 x0 x1 = some z) : bb_M l yX4_commonDivisor cX4_commonDivisor 6 (some .int) 1 D cs [.int x0, .int x1] (some (.int z)) ([]) ([]) := bb_mg (by decide) rfl (Nat.le_of_ble_eq_true rfl) rfl (fun X hl hD hcs C hR hr R => by
  subst hl
  subst hD
  subst hcs
  exact B_X4_commonDivisor_0 C hR hr  R hf)
/-! X4_luck: reads, level 5 -/
noncomputable def F_X4_luck_27 (s0 : bb_H) : Option Int32 := some ((-1 : Int32))
set_option maxHeartbeats 4000000 in
set_option maxRecDepth 100000 in
theorem B_X4_luck_27 {X : bb_X} (C : bb_C X RX4 cX4_luck 7) (hR : bb_r X 5) (hr : X.meth.sig.returnType = (some .int)) (h : Nat → Nat → Nat) {z : Int32} {s0 : bb_H} (R : bb_R X (some (.int z)) (wX4 X.cs h s0))  (hf : F_X4_luck_27 s0 = some z) : bb_Z X 7 (wX4 X.cs h s0) 27 [] [] := by
  refine z_iconst (pc := 27) C (-1 : Int32) dX4_luck_27 (by decide) ?_
  obtain rfl := Option.some.inj hf
  exact z_iret (pc := 28) C hr R dX4_luck_28
noncomputable def F_X4_luck_141 (s0 : bb_H) (x6 : Int32) (y0 : Int32) : Option Int32 := bb_g (¬ x6 = 0) (some (y0 / x6))
set_option maxHeartbeats 4000000 in
set_option maxRecDepth 100000 in
theorem B_X4_luck_141 {X : bb_X} (C : bb_C X RX4 cX4_luck 7) (hR : bb_r X 5) (hr : X.meth.sig.returnType = (some .int)) (h : Nat → Nat → Nat) {z : Int32} {s0 : bb_H} (R : bb_R X (some (.int z)) (wX4 X.cs h s0)) {x6 : Int32} {y0 : Int32} (hf : F_X4_luck_141 s0 x6 y0 = some z) : bb_Z X 7 (wX4 X.cs h s0) 141 [(6, .int x6)] [.int y0] := by
  refine z_iload (pc := 141) C 0 dX4_luck_141 rfl ?_
  obtain ⟨hn1, hf⟩ := bb_g_some hf
  refine z_idiv (pc := 143) C dX4_luck_143 hn1 ?_
  obtain rfl := Option.some.inj hf
  exact z_iret (pc := 144) C hr R dX4_luck_144
noncomputable def F_X4_luck_114 (s0 : bb_H) (x3 : Int32) (x4 : Int32) (x5 : Int32) : Option Int32 := (F_X4_commonDivisor_0 x4 x5).bind (fun q1 => if q1 = 0 then (some ((-1 : Int32))) else (if x3 = 0 then (F_X4_luck_141 s0 q1 x4) else (F_X4_luck_141 s0 q1 x5)))
set_option maxHeartbeats 4000000 in
set_option maxRecDepth 100000 in
theorem B_X4_luck_114 {X : bb_X} (C : bb_C X RX4 cX4_luck 7) (hR : bb_r X 5) (hr : X.meth.sig.returnType = (some .int)) (h : Nat → Nat → Nat) {z : Int32} {s0 : bb_H} (R : bb_R X (some (.int z)) (wX4 X.cs h s0)) {x3 : Int32} {x4 : Int32} {x5 : Int32} (hf : F_X4_luck_114 s0 x3 x4 x5 = some z) : bb_Z X 7 (wX4 X.cs h s0) 114 [(3, .int x3), (4, .int x4), (5, .int x5)] [] := by
  refine z_iload (pc := 114) C 1 dX4_luck_114 rfl ?_
  refine z_iload (pc := 116) C 2 dX4_luck_116 rfl ?_
  obtain ⟨q1, hq1, hf⟩ := bb_b_some hf
  refine z_callSi (pc := 118) (As := [.int x4, .int x5]) (rest := []) C (hR.le (by decide)) (c_X4_commonDivisor hq1) (bb_cut_none _) bv_X4_commonDivisor bm_X4_183 rfl rfl (Nat.le_of_ble_eq_true rfl) dX4_luck_118 ?_
  refine z_istore (pc := 121) (lv' := [(6, .int q1), (3, .int x3), (4, .int x4), (5, .int x5)]) C dX4_luck_121 (by decide) rfl ?_
  refine z_iload (pc := 123) C 0 dX4_luck_123 rfl ?_
  refine z_if_ne (pc := 125) C 130 dX4_luck_125 (by decide) (fun hc2 => ?_) (fun hc2 => ?_)
  · have hf := bb_e hf hc2
    refine z_iload_n (pc := 130) (i := 3) C 1 dX4_luck_130 rfl rfl ?_
    refine z_if_ne (pc := 131) C 139 dX4_luck_131 (by decide) (fun hc3 => ?_) (fun hc3 => ?_)
    · have hf := bb_e hf hc3
      refine z_iload (pc := 139) C 3 dX4_luck_139 rfl ?_
      refine z_lv [0] rfl ?_
      exact B_X4_luck_141 C hR hr h R  hf
    · have hf := bb_t hf hc3
      refine z_iload (pc := 134) C 2 dX4_luck_134 rfl ?_
      refine z_goto (pc := 136) C 141 dX4_luck_136 (by decide) ?_
      refine z_lv [0] rfl ?_
      exact B_X4_luck_141 C hR hr h R  hf
  · have hf := bb_t hf hc2
    refine z_iconst (pc := 128) C (-1 : Int32) dX4_luck_128 (by decide) ?_
    obtain rfl := Option.some.inj hf
    exact z_iret (pc := 129) C hr R dX4_luck_129
noncomputable def F_X4_luck_108 (s0 : bb_H) (k70 : Int32 → Int32 → Int32 → Int32 → Int32 → Int32 → Option Int32) (x1 : Int32) (x2 : Int32) (x3 : Int32) (x4 : Int32) (x5 : Int32) (x6 : Int32) : Option Int32 := k70 x1 x2 x3 x4 x5 (x6 + 1)
set_option maxHeartbeats 4000000 in
set_option maxRecDepth 100000 in
theorem B_X4_luck_108 {X : bb_X} (C : bb_C X RX4 cX4_luck 7) (hR : bb_r X 5) (hr : X.meth.sig.returnType = (some .int)) (h : Nat → Nat → Nat) {z : Int32} {s0 : bb_H} (R : bb_R X (some (.int z)) (wX4 X.cs h s0)) {k70 : Int32 → Int32 → Int32 → Int32 → Int32 → Int32 → Option Int32} (hk70 : ∀ (x1 : Int32) (x2 : Int32) (x3 : Int32) (x4 : Int32) (x5 : Int32) (x6 : Int32), k70 x1 x2 x3 x4 x5 x6 = some z → bb_Z X 7 (wX4 X.cs h s0) 70 [(0, .ref (h 5 0)), (1, .int x1), (2, .int x2), (3, .int x3), (4, .int x4), (5, .int x5), (6, .int x6)] []) {x1 : Int32} {x2 : Int32} {x3 : Int32} {x4 : Int32} {x5 : Int32} {x6 : Int32} (hf : F_X4_luck_108 s0 k70 x1 x2 x3 x4 x5 x6 = some z) : bb_Z X 7 (wX4 X.cs h s0) 108 [(0, .ref (h 5 0)), (1, .int x1), (2, .int x2), (3, .int x3), (4, .int x4), (5, .int x5), (6, .int x6)] [] := by
  refine z_iinc (pc := 108) (lv' := [(6, .int (x6 + 1)), (0, .ref (h 5 0)), (1, .int x1), (2, .int x2), (3, .int x3), (4, .int x4), (5, .int x5)]) C (x6 + 1) 6 dX4_luck_108 rfl rfl (by decide) rfl ?_
  refine z_goto (pc := 111) C 70 dX4_luck_111 (by decide) ?_
  refine z_lv [1, 2, 3, 4, 5, 6, 0] rfl ?_
  exact hk70 _ _ _ _ _ _ hf
noncomputable def G_X4_luck_70 (s0 : bb_H) (k70 : Int32 → Int32 → Int32 → Int32 → Int32 → Int32 → Option Int32) (x1 : Int32) (x2 : Int32) (x3 : Int32) (x4 : Int32) (x5 : Int32) (x6 : Int32) : Option Int32 := if (((s0 0)).1 2) ≤ x6 then (F_X4_luck_114 s0 x3 x4 x5) else ((F_X0_goesFirst_0 ((s0 0)) x6 x1).bind (fun q2 => if q2 = 0 then (F_X4_luck_108 s0 k70 x1 x2 x3 x4 x5 x6) else (F_X4_luck_108 s0 k70 x1 x2 x3 (x4 * x2) (x5 * ((10 : Int32))) x6)))
noncomputable def F_X4_luck_70 (s0 : bb_H) : Nat → Int32 → Int32 → Int32 → Int32 → Int32 → Int32 → Option Int32
  | 0, _, _, _, _, _, _ => none
  | n + 1, x1, x2, x3, x4, x5, x6 => G_X4_luck_70 s0 (F_X4_luck_70 s0 n) x1 x2 x3 x4 x5 x6
set_option maxHeartbeats 4000000 in
set_option maxRecDepth 100000 in
theorem A_X4_luck_70 {X : bb_X} (C : bb_C X RX4 cX4_luck 7) (hR : bb_r X 5) (hr : X.meth.sig.returnType = (some .int)) (h : Nat → Nat → Nat) {z : Int32} {s0 : bb_H} (R : bb_R X (some (.int z)) (wX4 X.cs h s0)) {k70 : Int32 → Int32 → Int32 → Int32 → Int32 → Int32 → Option Int32} (hk70 : ∀ (x1 : Int32) (x2 : Int32) (x3 : Int32) (x4 : Int32) (x5 : Int32) (x6 : Int32), k70 x1 x2 x3 x4 x5 x6 = some z → bb_Z X 7 (wX4 X.cs h s0) 70 [(0, .ref (h 5 0)), (1, .int x1), (2, .int x2), (3, .int x3), (4, .int x4), (5, .int x5), (6, .int x6)] []) {x1 : Int32} {x2 : Int32} {x3 : Int32} {x4 : Int32} {x5 : Int32} {x6 : Int32} (hf : G_X4_luck_70 s0 k70 x1 x2 x3 x4 x5 x6 = some z) : bb_Z X 7 (wX4 X.cs h s0) 70 [(0, .ref (h 5 0)), (1, .int x1), (2, .int x2), (3, .int x3), (4, .int x4), (5, .int x5), (6, .int x6)] [] := by
  refine z_iload (pc := 70) C 6 dX4_luck_70 rfl ?_
  refine z_aload_n (pc := 72) (i := 0) C 0 dX4_luck_72 rfl rfl ?_
  refine z_get (pc := 73) (ci := 4) C (.ref (h 0 0)) bi_X4 rfl 0 0 (by decide) rfl bf_X4_10 rfl rfl dX4_luck_73 ?_
  refine z_get (pc := 76) (ci := 0) C (.int (((s0 0)).1 2)) bi_X0 rfl 2 2 (by decide) rfl bf_X4_61 rfl rfl dX4_luck_76 ?_
  refine z_icmp_ge (pc := 79) C 114 dX4_luck_79 (by decide) (fun hc1 => ?_) (fun hc1 => ?_)
  · have hf := bb_t hf hc1
    refine z_lv [3, 4, 5] rfl ?_
    exact B_X4_luck_114 C hR hr h R  hf
  · have hf := bb_e hf hc1
    refine z_aload_n (pc := 82) (i := 0) C 0 dX4_luck_82 rfl rfl ?_
    refine z_get (pc := 83) (ci := 4) C (.ref (h 0 0)) bi_X4 rfl 0 0 (by decide) rfl bf_X4_10 rfl rfl dX4_luck_83 ?_
    refine z_iload (pc := 86) C 6 dX4_luck_86 rfl ?_
    refine z_iload_n (pc := 88) (i := 1) C 1 dX4_luck_88 rfl rfl ?_
    obtain ⟨q2, hq2, hf⟩ := bb_b_some hf
    refine z_callVi (pc := 89) (ci := 0) (q0 := 0) (As := [.int x6, .int x1]) (rest := []) C (hR.le (by decide)) (c_X0_goesFirst (h 0) hq2) (cutp_X4_0 _ _ _) bv_X0_goesFirst bm_X4_179 rfl rfl rfl rfl (Nat.le_of_ble_eq_true rfl) dX4_luck_89 ?_
    refine z_if_eq (pc := 92) C 108 dX4_luck_92 (by decide) (fun hc3 => ?_) (fun hc3 => ?_)
    · have hf := bb_t hf hc3
      exact B_X4_luck_108 C hR hr h R hk70 hf
    · have hf := bb_e hf hc3
      refine z_iload (pc := 95) C 4 dX4_luck_95 rfl ?_
      refine z_iload_n (pc := 97) (i := 2) C 2 dX4_luck_97 rfl rfl ?_
      refine z_imul (pc := 98) C dX4_luck_98 ?_
      refine z_istore (pc := 99) (lv' := [(4, .int (x4 * x2)), (0, .ref (h 5 0)), (1, .int x1), (2, .int x2), (3, .int x3), (5, .int x5), (6, .int x6)]) C dX4_luck_99 (by decide) rfl ?_
      refine z_iload (pc := 101) C 5 dX4_luck_101 rfl ?_
      refine z_bipush (pc := 103) C (10 : Int32) dX4_luck_103 (by decide) ?_
      refine z_imul (pc := 105) C dX4_luck_105 ?_
      refine z_istore (pc := 106) (lv' := [(5, .int (x5 * ((10 : Int32)))), (4, .int (x4 * x2)), (0, .ref (h 5 0)), (1, .int x1), (2, .int x2), (3, .int x3), (6, .int x6)]) C dX4_luck_106 (by decide) rfl ?_
      refine z_lv [2, 3, 4, 5, 1, 0, 6] rfl ?_
      exact B_X4_luck_108 C hR hr h R hk70 hf
theorem B_X4_luck_70 {X : bb_X} (C : bb_C X RX4 cX4_luck 7) (hR : bb_r X 5) (hr : X.meth.sig.returnType = (some .int)) (h : Nat → Nat → Nat) {z : Int32} {s0 : bb_H} (R : bb_R X (some (.int z)) (wX4 X.cs h s0)) : ∀ (n : Nat) (x1 : Int32) (x2 : Int32) (x3 : Int32) (x4 : Int32) (x5 : Int32) (x6 : Int32), F_X4_luck_70 s0 n x1 x2 x3 x4 x5 x6 = some z → bb_Z X 7 (wX4 X.cs h s0) 70 [(0, .ref (h 5 0)), (1, .int x1), (2, .int x2), (3, .int x3), (4, .int x4), (5, .int x5), (6, .int x6)] [] := by
  intro n
  induction n with
  | zero =>
    intro x1 x2 x3 x4 x5 x6 hf
    cases hf
  | succ n ih =>
    intro x1 x2 x3 x4 x5 x6 hf
    exact A_X4_luck_70 C hR hr h R  ih hf
noncomputable def F_X4_luck_0 (s0 : bb_H) (x1 : Int32) (x2 : Int32) (x3 : Int32) : Option Int32 := (F_X4_isNobody_0 s0 x1).bind (fun q1 => if q1 = 0 then ((F_X4_outside_0 x2 ((0 : Int32)) ((10 : Int32))).bind (fun q3 => if q3 = 0 then ((F_X4_outside_0 x3 ((0 : Int32)) ((1 : Int32))).bind (fun q5 => if q5 = 0 then ((F_X0_isFree_0 ((s0 0)) x1).bind (fun q7 => if q7 = 0 then (F_X4_luck_114 s0 x3 ((0 : Int32)) ((1 : Int32))) else ((F_X0_loud_0 ((s0 0)) x1).bind (fun q9 => if q9 ≤ 0 then (F_X4_luck_114 s0 x3 ((0 : Int32)) ((1 : Int32))) else (F_X4_luck_70 s0 bb_N x1 x2 x3 (((10 : Int32)) - x2) ((10 : Int32)) ((0 : Int32))))))) else (F_X4_luck_27 s0))) else (F_X4_luck_27 s0))) else (F_X4_luck_27 s0))
set_option maxHeartbeats 4000000 in
set_option maxRecDepth 100000 in
theorem B_X4_luck_0 {X : bb_X} (C : bb_C X RX4 cX4_luck 7) (hR : bb_r X 5) (hr : X.meth.sig.returnType = (some .int)) (h : Nat → Nat → Nat) {z : Int32} {s0 : bb_H} (R : bb_R X (some (.int z)) (wX4 X.cs h s0)) {x1 : Int32} {x2 : Int32} {x3 : Int32} (hf : F_X4_luck_0 s0 x1 x2 x3 = some z) : bb_Z X 7 (wX4 X.cs h s0) 0 [(0, .ref (h 5 0)), (1, .int x1), (2, .int x2), (3, .int x3)] [] := by
  refine z_aload_n (pc := 0) (i := 0) C 0 dX4_luck_0 rfl rfl ?_
  refine z_iload_n (pc := 1) (i := 1) C 1 dX4_luck_1 rfl rfl ?_
  obtain ⟨q1, hq1, hf⟩ := bb_b_some hf
  refine z_callVi (pc := 2) (ci := 4) (q0 := 0) (As := [.int x1]) (rest := []) C (hR.le (by decide)) (c_X4_isNobody h hq1) (bb_cut_self _ _) bv_X4_isNobody bm_X4_69 rfl rfl rfl rfl (Nat.le_of_ble_eq_true rfl) dX4_luck_2 ?_
  refine z_if_ne (pc := 5) C 27 dX4_luck_5 (by decide) (fun hc2 => ?_) (fun hc2 => ?_)
  · have hf := bb_e hf hc2
    refine z_lv [] rfl ?_
    exact B_X4_luck_27 C hR hr h R  hf
  · have hf := bb_t hf hc2
    refine z_iload_n (pc := 8) (i := 2) C 2 dX4_luck_8 rfl rfl ?_
    refine z_iconst (pc := 9) C (0 : Int32) dX4_luck_9 (by decide) ?_
    refine z_bipush (pc := 10) C (10 : Int32) dX4_luck_10 (by decide) ?_
    obtain ⟨q3, hq3, hf⟩ := bb_b_some hf
    refine z_callSi (pc := 12) (As := [.int x2, .int ((0 : Int32)), .int ((10 : Int32))]) (rest := []) C (hR.le (by decide)) (c_X4_outside hq3) (bb_cut_none _) bv_X4_outside bm_X4_46 rfl rfl (Nat.le_of_ble_eq_true rfl) dX4_luck_12 ?_
    refine z_if_ne (pc := 15) C 27 dX4_luck_15 (by decide) (fun hc4 => ?_) (fun hc4 => ?_)
    · have hf := bb_e hf hc4
      refine z_lv [] rfl ?_
      exact B_X4_luck_27 C hR hr h R  hf
    · have hf := bb_t hf hc4
      refine z_iload_n (pc := 18) (i := 3) C 3 dX4_luck_18 rfl rfl ?_
      refine z_iconst (pc := 19) C (0 : Int32) dX4_luck_19 (by decide) ?_
      refine z_iconst (pc := 20) C (1 : Int32) dX4_luck_20 (by decide) ?_
      obtain ⟨q5, hq5, hf⟩ := bb_b_some hf
      refine z_callSi (pc := 21) (As := [.int x3, .int ((0 : Int32)), .int ((1 : Int32))]) (rest := []) C (hR.le (by decide)) (c_X4_outside hq5) (bb_cut_none _) bv_X4_outside bm_X4_46 rfl rfl (Nat.le_of_ble_eq_true rfl) dX4_luck_21 ?_
      refine z_if_eq (pc := 24) C 29 dX4_luck_24 (by decide) (fun hc6 => ?_) (fun hc6 => ?_)
      · have hf := bb_t hf hc6
        refine z_iconst (pc := 29) C (0 : Int32) dX4_luck_29 (by decide) ?_
        refine z_istore (pc := 30) (lv' := [(4, .int ((0 : Int32))), (0, .ref (h 5 0)), (1, .int x1), (2, .int x2), (3, .int x3)]) C dX4_luck_30 (by decide) rfl ?_
        refine z_iconst (pc := 32) C (1 : Int32) dX4_luck_32 (by decide) ?_
        refine z_istore (pc := 33) (lv' := [(5, .int ((1 : Int32))), (4, .int ((0 : Int32))), (0, .ref (h 5 0)), (1, .int x1), (2, .int x2), (3, .int x3)]) C dX4_luck_33 (by decide) rfl ?_
        refine z_aload_n (pc := 35) (i := 0) C 2 dX4_luck_35 rfl rfl ?_
        refine z_get (pc := 36) (ci := 4) C (.ref (h 0 0)) bi_X4 rfl 0 0 (by decide) rfl bf_X4_10 rfl rfl dX4_luck_36 ?_
        refine z_iload_n (pc := 39) (i := 1) C 3 dX4_luck_39 rfl rfl ?_
        obtain ⟨q7, hq7, hf⟩ := bb_b_some hf
        refine z_callVi (pc := 40) (ci := 0) (q0 := 0) (As := [.int x1]) (rest := []) C (hR.le (by decide)) (c_X0_isFree (h 0) hq7) (cutp_X4_0 _ _ _) bv_X0_isFree bm_X4_89 rfl rfl rfl rfl (Nat.le_of_ble_eq_true rfl) dX4_luck_40 ?_
        refine z_if_eq (pc := 43) C 114 dX4_luck_43 (by decide) (fun hc8 => ?_) (fun hc8 => ?_)
        · have hf := bb_t hf hc8
          refine z_lv [5, 1, 0] rfl ?_
          exact B_X4_luck_114 C hR hr h R  hf
        · have hf := bb_e hf hc8
          refine z_aload_n (pc := 46) (i := 0) C 2 dX4_luck_46 rfl rfl ?_
          refine z_get (pc := 47) (ci := 4) C (.ref (h 0 0)) bi_X4 rfl 0 0 (by decide) rfl bf_X4_10 rfl rfl dX4_luck_47 ?_
          refine z_iload_n (pc := 50) (i := 1) C 3 dX4_luck_50 rfl rfl ?_
          obtain ⟨q9, hq9, hf⟩ := bb_b_some hf
          refine z_callVi (pc := 51) (ci := 0) (q0 := 0) (As := [.int x1]) (rest := []) C (hR.le (by decide)) (c_X0_loud (h 0) hq9) (cutp_X4_0 _ _ _) bv_X0_loud bm_X4_96 rfl rfl rfl rfl (Nat.le_of_ble_eq_true rfl) dX4_luck_51 ?_
          refine z_if_le (pc := 54) C 114 dX4_luck_54 (by decide) (fun hc10 => ?_) (fun hc10 => ?_)
          · have hf := bb_t hf hc10
            refine z_lv [5, 1, 0] rfl ?_
            exact B_X4_luck_114 C hR hr h R  hf
          · have hf := bb_e hf hc10
            refine z_bipush (pc := 57) C (10 : Int32) dX4_luck_57 (by decide) ?_
            refine z_iload_n (pc := 59) (i := 2) C 4 dX4_luck_59 rfl rfl ?_
            refine z_isub (pc := 60) C dX4_luck_60 ?_
            refine z_istore (pc := 61) (lv' := [(4, .int (((10 : Int32)) - x2)), (5, .int ((1 : Int32))), (0, .ref (h 5 0)), (1, .int x1), (2, .int x2), (3, .int x3)]) C dX4_luck_61 (by decide) rfl ?_
            refine z_bipush (pc := 63) C (10 : Int32) dX4_luck_63 (by decide) ?_
            refine z_istore (pc := 65) (lv' := [(5, .int ((10 : Int32))), (4, .int (((10 : Int32)) - x2)), (0, .ref (h 5 0)), (1, .int x1), (2, .int x2), (3, .int x3)]) C dX4_luck_65 (by decide) rfl ?_
            refine z_iconst (pc := 67) C (0 : Int32) dX4_luck_67 (by decide) ?_
            refine z_istore (pc := 68) (lv' := [(6, .int ((0 : Int32))), (5, .int ((10 : Int32))), (4, .int (((10 : Int32)) - x2)), (0, .ref (h 5 0)), (1, .int x1), (2, .int x2), (3, .int x3)]) C dX4_luck_68 (by decide) rfl ?_
            refine z_lv [3, 4, 5, 6, 2, 1, 0] rfl ?_
            exact B_X4_luck_70 C hR hr h R  bb_N _ _ _ _ _ _ hf
      · have hf := bb_e hf hc6
        refine z_lv [] rfl ?_
        exact B_X4_luck_27 C hR hr h R  hf
theorem c_X4_luck {l : Launch} {D : va_G} {cs : Nat → ClassId} (h : Nat → Nat → Nat) {s0 : bb_H} {x1 : Int32} {x2 : Int32} {x3 : Int32} {z : Int32} (hf : F_X4_luck_0 s0 x1 x2 x3 = some z) : bb_M l yX4_luck cX4_luck 7 (some .int) 5 D cs [.ref (h 5 0), .int x1, .int x2, .int x3] (some (.int z)) (wX4 cs h s0) (wX4 cs h s0) := bb_mg (by decide) rfl (Nat.le_of_ble_eq_true rfl) rfl (fun X hl hD hcs C hR hr R => by
  subst hl
  subst hD
  subst hcs
  exact B_X4_luck_0 C hR hr h R hf)
/-! X4_image: writes, level 2 -/
noncomputable def F_X4_image_27 (s0 : bb_H) : Option (Int32 × bb_H) := some ((1 : Int32), s0)
set_option maxHeartbeats 4000000 in
set_option maxRecDepth 100000 in
theorem B_X4_image_27 {X : bb_X} (C : bb_C X RX4 cX4_image 1) (hR : bb_r X 2) (hr : X.meth.sig.returnType = (some .int)) (h : Nat → Nat → Nat) {z : (Int32 × bb_H)} (R : bb_R X (some (.int z.1)) (wX4 X.cs h z.2)) {s0 : bb_H} (hf : F_X4_image_27 s0 = some z) : bb_Z X 1 (wX4 X.cs h s0) 27 [] [] := by
  refine z_iconst (pc := 27) C (1 : Int32) dX4_image_27 (by decide) ?_
  obtain rfl := Option.some.inj hf
  exact z_iret (pc := 28) C hr R dX4_image_28
noncomputable def F_X4_image_0 (s0 : bb_H) : Option (Int32 × bb_H) := (F_X0_take_0 ((s0 3)) ((s0 0))).bind (fun q1 => (F_X1_takePast_0 (((va_up (va_up s0 3 q1.1) 0 q1.2) 4)) (((va_up (va_up s0 3 q1.1) 0 q1.2) 1))).bind (fun q2 => F_X4_image_27 (va_up (va_up (va_up (va_up (va_up s0 3 q1.1) 0 q1.2) 4 q2.1) 1 q2.2) 5 (bb_sf (((va_up (va_up (va_up (va_up s0 3 q1.1) 0 q1.2) 4 q2.1) 1 q2.2) 5)) 5 ((1 : Int32))))))
set_option maxHeartbeats 4000000 in
set_option maxRecDepth 100000 in
theorem B_X4_image_0 {X : bb_X} (C : bb_C X RX4 cX4_image 1) (hR : bb_r X 2) (hr : X.meth.sig.returnType = (some .int)) (h : Nat → Nat → Nat) {z : (Int32 × bb_H)} (R : bb_R X (some (.int z.1)) (wX4 X.cs h z.2)) {s0 : bb_H} (hf : F_X4_image_0 s0 = some z) : bb_Z X 1 (wX4 X.cs h s0) 0 [(0, .ref (h 5 0))] [] := by
  refine z_aload_n (pc := 0) (i := 0) C 0 dX4_image_0 rfl rfl ?_
  refine z_get (pc := 1) (ci := 4) C (.ref (h 3 0)) bi_X4 rfl 0 3 (by decide) rfl bf_X4_26 rfl rfl dX4_image_1 ?_
  refine z_aload_n (pc := 4) (i := 0) C 0 dX4_image_4 rfl rfl ?_
  refine z_get (pc := 5) (ci := 4) C (.ref (h 0 0)) bi_X4 rfl 0 0 (by decide) rfl bf_X4_10 rfl rfl dX4_image_5 ?_
  obtain ⟨q1, hq1, hf⟩ := bb_b_some hf
  refine z_callVv (pc := 8) (ci := 0) (q0 := 0) (As := [.ref (h 0 0)]) (rest := []) (ws' := wX4 X.cs h (va_up (va_up s0 3 q1.1) 0 q1.2)) C (hR.le (by decide)) (c_X0_take (h 3) (h 0) hq1) (cut_X4_3_0 _ _ _ _ _) bv_X0_take bm_X4_111 rfl rfl rfl rfl (Nat.le_of_ble_eq_true rfl) dX4_image_8 ?_
  refine z_aload_n (pc := 11) (i := 0) C 0 dX4_image_11 rfl rfl ?_
  refine z_get (pc := 12) (ci := 4) C (.ref (h 4 0)) bi_X4 rfl 0 4 (by decide) rfl bf_X4_29 rfl rfl dX4_image_12 ?_
  refine z_aload_n (pc := 15) (i := 0) C 0 dX4_image_15 rfl rfl ?_
  refine z_get (pc := 16) (ci := 4) C (.ref (h 1 0)) bi_X4 rfl 0 1 (by decide) rfl bf_X4_19 rfl rfl dX4_image_16 ?_
  obtain ⟨q2, hq2, hf⟩ := bb_b_some hf
  refine z_callVv (pc := 19) (ci := 1) (q0 := 0) (As := [.ref (h 1 0)]) (rest := []) (ws' := wX4 X.cs h (va_up (va_up (va_up (va_up s0 3 q1.1) 0 q1.2) 4 q2.1) 1 q2.2)) C (hR.le (by decide)) (c_X1_takePast (h 4) (h 1) hq2) (cut_X4_4_1 _ _ _ _ _) bv_X1_takePast bm_X4_186 rfl rfl rfl rfl (Nat.le_of_ble_eq_true rfl) dX4_image_19 ?_
  refine z_aload_n (pc := 22) (i := 0) C 0 dX4_image_22 rfl rfl ?_
  refine z_iconst (pc := 23) C (1 : Int32) dX4_image_23 (by decide) ?_
  refine z_put (pc := 24) (ci := 4) (ty := .boolean) (ws' := wX4 X.cs h (va_up (va_up (va_up (va_up (va_up s0 3 q1.1) 0 q1.2) 4 q2.1) 1 q2.2) 5 (bb_sf (((va_up (va_up (va_up (va_up s0 3 q1.1) 0 q1.2) 4 q2.1) 1 q2.2) 5)) 5 ((1 : Int32))))) C bi_X4 tyX4_ok nmX4 rfl 0 5 (by decide) rfl bf_X4_190 rfl rfl (bb_nz (Or.inr rfl)) (bb_fz (Or.inr rfl)) rfl (Nat.le_of_ble_eq_true rfl) rfl dX4_image_24 ?_
  refine z_lv [] rfl ?_
  exact B_X4_image_27 C hR hr h R  hf
theorem c_X4_image {l : Launch} {D : va_G} {cs : Nat → ClassId} (h : Nat → Nat → Nat) {s0 : bb_H} {z : (Int32 × bb_H)} (hf : F_X4_image_0 s0 = some z) : bb_M l yX4_image cX4_image 1 (some .int) 2 D cs [.ref (h 5 0)] (some (.int z.1)) (wX4 cs h s0) (wX4 cs h z.2) := bb_mg (by decide) rfl (Nat.le_of_ble_eq_true rfl) rfl (fun X hl hD hcs C hR hr R => by
  subst hl
  subst hD
  subst hcs
  exact B_X4_image_0 C hR hr h R hf)
/-! X4_restore: writes, level 2 -/
noncomputable def F_X4_restore_0 (s0 : bb_H) : Option (Int32 × bb_H) := if (((s0 5)).1 5) = 0 then (some ((-4 : Int32), s0)) else ((F_X0_take_0 ((s0 0)) ((s0 3))).bind (fun q2 => (F_X1_takePast_0 (((va_up (va_up s0 0 q2.1) 3 q2.2) 1)) (((va_up (va_up s0 0 q2.1) 3 q2.2) 4))).bind (fun q3 => some ((1 : Int32), va_up (va_up (va_up (va_up s0 0 q2.1) 3 q2.2) 1 q3.1) 4 q3.2))))
set_option maxHeartbeats 4000000 in
set_option maxRecDepth 100000 in
theorem B_X4_restore_0 {X : bb_X} (C : bb_C X RX4 cX4_restore 1) (hR : bb_r X 2) (hr : X.meth.sig.returnType = (some .int)) (h : Nat → Nat → Nat) {z : (Int32 × bb_H)} (R : bb_R X (some (.int z.1)) (wX4 X.cs h z.2)) {s0 : bb_H} (hf : F_X4_restore_0 s0 = some z) : bb_Z X 1 (wX4 X.cs h s0) 0 [(0, .ref (h 5 0))] [] := by
  refine z_aload_n (pc := 0) (i := 0) C 0 dX4_restore_0 rfl rfl ?_
  refine z_get (pc := 1) (ci := 4) C (.int (((s0 5)).1 5)) bi_X4 rfl 0 5 (by decide) rfl bf_X4_190 rfl rfl dX4_restore_1 ?_
  refine z_if_ne (pc := 4) C 10 dX4_restore_4 (by decide) (fun hc1 => ?_) (fun hc1 => ?_)
  · have hf := bb_e hf hc1
    refine z_aload_n (pc := 10) (i := 0) C 0 dX4_restore_10 rfl rfl ?_
    refine z_get (pc := 11) (ci := 4) C (.ref (h 0 0)) bi_X4 rfl 0 0 (by decide) rfl bf_X4_10 rfl rfl dX4_restore_11 ?_
    refine z_aload_n (pc := 14) (i := 0) C 0 dX4_restore_14 rfl rfl ?_
    refine z_get (pc := 15) (ci := 4) C (.ref (h 3 0)) bi_X4 rfl 0 3 (by decide) rfl bf_X4_26 rfl rfl dX4_restore_15 ?_
    obtain ⟨q2, hq2, hf⟩ := bb_b_some hf
    refine z_callVv (pc := 18) (ci := 0) (q0 := 0) (As := [.ref (h 3 0)]) (rest := []) (ws' := wX4 X.cs h (va_up (va_up s0 0 q2.1) 3 q2.2)) C (hR.le (by decide)) (c_X0_take (h 0) (h 3) hq2) (cut_X4_0_3 _ _ _ _ _) bv_X0_take bm_X4_111 rfl rfl rfl rfl (Nat.le_of_ble_eq_true rfl) dX4_restore_18 ?_
    refine z_aload_n (pc := 21) (i := 0) C 0 dX4_restore_21 rfl rfl ?_
    refine z_get (pc := 22) (ci := 4) C (.ref (h 1 0)) bi_X4 rfl 0 1 (by decide) rfl bf_X4_19 rfl rfl dX4_restore_22 ?_
    refine z_aload_n (pc := 25) (i := 0) C 0 dX4_restore_25 rfl rfl ?_
    refine z_get (pc := 26) (ci := 4) C (.ref (h 4 0)) bi_X4 rfl 0 4 (by decide) rfl bf_X4_29 rfl rfl dX4_restore_26 ?_
    obtain ⟨q3, hq3, hf⟩ := bb_b_some hf
    refine z_callVv (pc := 29) (ci := 1) (q0 := 0) (As := [.ref (h 4 0)]) (rest := []) (ws' := wX4 X.cs h (va_up (va_up (va_up (va_up s0 0 q2.1) 3 q2.2) 1 q3.1) 4 q3.2)) C (hR.le (by decide)) (c_X1_takePast (h 1) (h 4) hq3) (cut_X4_1_4 _ _ _ _ _) bv_X1_takePast bm_X4_186 rfl rfl rfl rfl (Nat.le_of_ble_eq_true rfl) dX4_restore_29 ?_
    refine z_iconst (pc := 32) C (1 : Int32) dX4_restore_32 (by decide) ?_
    obtain rfl := Option.some.inj hf
    exact z_iret (pc := 33) C hr R dX4_restore_33
  · have hf := bb_t hf hc1
    refine z_bipush (pc := 7) C (-4 : Int32) dX4_restore_7 (by decide) ?_
    obtain rfl := Option.some.inj hf
    exact z_iret (pc := 9) C hr R dX4_restore_9
theorem c_X4_restore {l : Launch} {D : va_G} {cs : Nat → ClassId} (h : Nat → Nat → Nat) {s0 : bb_H} {z : (Int32 × bb_H)} (hf : F_X4_restore_0 s0 = some z) : bb_M l yX4_restore cX4_restore 1 (some .int) 2 D cs [.ref (h 5 0)] (some (.int z.1)) (wX4 cs h s0) (wX4 cs h z.2) := bb_mg (by decide) rfl (Nat.le_of_ble_eq_true rfl) rfl (fun X hl hD hcs C hR hr R => by
  subst hl
  subst hD
  subst hcs
  exact B_X4_restore_0 C hR hr h R hf)
/-! X4_isNoSheet: reads, level 2 -/
noncomputable def F_X4_isNoSheet_0 (x0 : Int32) : Option Int32 := (F_X4_outside_0 x0 ((0 : Int32)) ((3 : Int32))).bind (fun q1 => bb_g (bb_z q1) (some q1))
set_option maxHeartbeats 4000000 in
set_option maxRecDepth 100000 in
theorem B_X4_isNoSheet_0 {X : bb_X} (C : bb_C X RX4 cX4_isNoSheet 1) (hR : bb_r X 2) (hr : X.meth.sig.returnType = (some .boolean)) {z : Int32} (R : bb_R X (some (.int z)) ([])) {x0 : Int32} (hf : F_X4_isNoSheet_0 x0 = some z) : bb_Z X 1 ([]) 0 [(0, .int x0)] [] := by
  refine z_iload_n (pc := 0) (i := 0) C 0 dX4_isNoSheet_0 rfl rfl ?_
  refine z_iconst (pc := 1) C (0 : Int32) dX4_isNoSheet_1 (by decide) ?_
  refine z_iconst (pc := 2) C (3 : Int32) dX4_isNoSheet_2 (by decide) ?_
  obtain ⟨q1, hq1, hf⟩ := bb_b_some hf
  refine z_callSi (pc := 3) (As := [.int x0, .int ((0 : Int32)), .int ((3 : Int32))]) (rest := []) C (hR.le (by decide)) (c_X4_outside hq1) (bb_cut_none _) bv_X4_outside bm_X4_46 rfl rfl (Nat.le_of_ble_eq_true rfl) dX4_isNoSheet_3 ?_
  obtain ⟨hz2, hf⟩ := bb_g_some hf
  obtain rfl := Option.some.inj hf
  exact z_zret (pc := 6) C hr (bb_nz hz2) R dX4_isNoSheet_6
theorem c_X4_isNoSheet {l : Launch} {D : va_G} {cs : Nat → ClassId} {x0 : Int32} {z : Int32} (hf : F_X4_isNoSheet_0 x0 = some z) : bb_M l yX4_isNoSheet cX4_isNoSheet 1 (some .boolean) 2 D cs [.int x0] (some (.int z)) ([]) ([]) := bb_mg (by decide) rfl (Nat.le_of_ble_eq_true rfl) rfl (fun X hl hD hcs C hR hr R => by
  subst hl
  subst hD
  subst hcs
  exact B_X4_isNoSheet_0 C hR hr  R hf)
/-! X4_seen: writes, level 7 -/
noncomputable def F_X4_seen_37 (s0 : bb_H) : Option (Int32 × bb_H) := some ((-1 : Int32), s0)
set_option maxHeartbeats 4000000 in
set_option maxRecDepth 100000 in
theorem B_X4_seen_37 {X : bb_X} (C : bb_C X RX4 cX4_seen 11) (hR : bb_r X 7) (hr : X.meth.sig.returnType = (some .int)) (h : Nat → Nat → Nat) {z : (Int32 × bb_H)} (R : bb_R X (some (.int z.1)) (wX4 X.cs h z.2)) {s0 : bb_H} (hf : F_X4_seen_37 s0 = some z) : bb_Z X 11 (wX4 X.cs h s0) 37 [] [] := by
  refine z_iconst (pc := 37) C (-1 : Int32) dX4_seen_37 (by decide) ?_
  obtain rfl := Option.some.inj hf
  exact z_iret (pc := 38) C hr R dX4_seen_38
noncomputable def F_X4_seen_158 (s0 : bb_H) (y0 : Int32) : Option (Int32 × bb_H) := some (y0, s0)
set_option maxHeartbeats 4000000 in
set_option maxRecDepth 100000 in
theorem B_X4_seen_158 {X : bb_X} (C : bb_C X RX4 cX4_seen 11) (hR : bb_r X 7) (hr : X.meth.sig.returnType = (some .int)) (h : Nat → Nat → Nat) {z : (Int32 × bb_H)} (R : bb_R X (some (.int z.1)) (wX4 X.cs h z.2)) {s0 : bb_H} {y0 : Int32} (hf : F_X4_seen_158 s0 y0 = some z) : bb_Z X 11 (wX4 X.cs h s0) 158 [] [.int y0] := by
  obtain rfl := Option.some.inj hf
  exact z_iret (pc := 158) C hr R dX4_seen_158
noncomputable def F_X4_seen_140 (k76 : bb_H → Int32 → Int32 → Int32 → Int32 → Int32 → Int32 → Int32 → Option (Int32 × bb_H)) (s0 : bb_H) (x3 : Int32) (x4 : Int32) (x5 : Int32) (x6 : Int32) (x8 : Int32) (x9 : Int32) (x10 : Int32) : Option (Int32 × bb_H) := k76 s0 x3 x4 x5 x6 x8 x9 (x10 + 1)
set_option maxHeartbeats 4000000 in
set_option maxRecDepth 100000 in
theorem B_X4_seen_140 {X : bb_X} (C : bb_C X RX4 cX4_seen 11) (hR : bb_r X 7) (hr : X.meth.sig.returnType = (some .int)) (h : Nat → Nat → Nat) {z : (Int32 × bb_H)} (R : bb_R X (some (.int z.1)) (wX4 X.cs h z.2)) {k76 : bb_H → Int32 → Int32 → Int32 → Int32 → Int32 → Int32 → Int32 → Option (Int32 × bb_H)} (hk76 : ∀ (s0 : bb_H) (x3 : Int32) (x4 : Int32) (x5 : Int32) (x6 : Int32) (x8 : Int32) (x9 : Int32) (x10 : Int32), k76 s0 x3 x4 x5 x6 x8 x9 x10 = some z → bb_Z X 11 (wX4 X.cs h s0) 76 [(0, .ref (h 5 0)), (3, .int x3), (4, .int x4), (5, .int x5), (6, .ref (h (7 + x6.toNatClampNeg) 0)), (8, .int x8), (9, .int x9), (10, .int x10)] []) {s0 : bb_H} {x3 : Int32} {x4 : Int32} {x5 : Int32} {x6 : Int32} {x8 : Int32} {x9 : Int32} {x10 : Int32} (hf : F_X4_seen_140 k76 s0 x3 x4 x5 x6 x8 x9 x10 = some z) : bb_Z X 11 (wX4 X.cs h s0) 140 [(0, .ref (h 5 0)), (3, .int x3), (4, .int x4), (5, .int x5), (6, .ref (h (7 + x6.toNatClampNeg) 0)), (8, .int x8), (9, .int x9), (10, .int x10)] [] := by
  refine z_iinc (pc := 140) (lv' := [(10, .int (x10 + 1)), (0, .ref (h 5 0)), (3, .int x3), (4, .int x4), (5, .int x5), (6, .ref (h (7 + x6.toNatClampNeg) 0)), (8, .int x8), (9, .int x9)]) C (x10 + 1) 7 dX4_seen_140 rfl rfl (by decide) rfl ?_
  refine z_goto (pc := 143) C 76 dX4_seen_143 (by decide) ?_
  refine z_lv [1, 2, 3, 4, 5, 6, 7, 0] rfl ?_
  exact hk76 _ _ _ _ _ _ _ _ hf
noncomputable def F_X4_seen_135 (k76 : bb_H → Int32 → Int32 → Int32 → Int32 → Int32 → Int32 → Int32 → Option (Int32 × bb_H)) (s0 : bb_H) (x3 : Int32) (x4 : Int32) (x5 : Int32) (x6 : Int32) (x8 : Int32) (x10 : Int32) (y0 : Int32) : Option (Int32 × bb_H) := F_X4_seen_140 k76 s0 x3 x4 x5 x6 (x8 + 1) y0 x10
set_option maxHeartbeats 4000000 in
set_option maxRecDepth 100000 in
theorem B_X4_seen_135 {X : bb_X} (C : bb_C X RX4 cX4_seen 11) (hR : bb_r X 7) (hr : X.meth.sig.returnType = (some .int)) (h : Nat → Nat → Nat) {z : (Int32 × bb_H)} (R : bb_R X (some (.int z.1)) (wX4 X.cs h z.2)) {k76 : bb_H → Int32 → Int32 → Int32 → Int32 → Int32 → Int32 → Int32 → Option (Int32 × bb_H)} (hk76 : ∀ (s0 : bb_H) (x3 : Int32) (x4 : Int32) (x5 : Int32) (x6 : Int32) (x8 : Int32) (x9 : Int32) (x10 : Int32), k76 s0 x3 x4 x5 x6 x8 x9 x10 = some z → bb_Z X 11 (wX4 X.cs h s0) 76 [(0, .ref (h 5 0)), (3, .int x3), (4, .int x4), (5, .int x5), (6, .ref (h (7 + x6.toNatClampNeg) 0)), (8, .int x8), (9, .int x9), (10, .int x10)] []) {s0 : bb_H} {x3 : Int32} {x4 : Int32} {x5 : Int32} {x6 : Int32} {x8 : Int32} {x10 : Int32} {y0 : Int32} (hf : F_X4_seen_135 k76 s0 x3 x4 x5 x6 x8 x10 y0 = some z) : bb_Z X 11 (wX4 X.cs h s0) 135 [(0, .ref (h 5 0)), (3, .int x3), (4, .int x4), (5, .int x5), (6, .ref (h (7 + x6.toNatClampNeg) 0)), (8, .int x8), (10, .int x10)] [.int y0] := by
  refine z_istore (pc := 135) (lv' := [(9, .int y0), (0, .ref (h 5 0)), (3, .int x3), (4, .int x4), (5, .int x5), (6, .ref (h (7 + x6.toNatClampNeg) 0)), (8, .int x8), (10, .int x10)]) C dX4_seen_135 (by decide) rfl ?_
  refine z_iinc (pc := 137) (lv' := [(8, .int (x8 + 1)), (9, .int y0), (0, .ref (h 5 0)), (3, .int x3), (4, .int x4), (5, .int x5), (6, .ref (h (7 + x6.toNatClampNeg) 0)), (10, .int x10)]) C (x8 + 1) 6 dX4_seen_137 rfl rfl (by decide) rfl ?_
  refine z_lv [2, 3, 4, 5, 6, 0, 1, 7] rfl ?_
  exact B_X4_seen_140 C hR hr h R hk76 hf
noncomputable def F_X4_seen_108 (k76 : bb_H → Int32 → Int32 → Int32 → Int32 → Int32 → Int32 → Int32 → Option (Int32 × bb_H)) (s0 : bb_H) (x3 : Int32) (x4 : Int32) (x5 : Int32) (x6 : Int32) (x8 : Int32) (x9 : Int32) (x10 : Int32) : Option (Int32 × bb_H) := bb_g (vp_in x6 4) ((F_X2_tellsOf_0 (s0 (7 + x6.toNatClampNeg)) (s0 2) x3 x4).bind (fun q1 => if q1.1 = 0 then (F_X4_seen_140 k76 (va_up (va_up s0 (7 + x6.toNatClampNeg) q1.2.1) 2 q1.2.2) x3 x4 x5 x6 x8 x9 x10) else (if x8 = 0 then (F_X4_seen_135 k76 (va_up (va_up s0 (7 + x6.toNatClampNeg) q1.2.1) 2 q1.2.2) x3 x4 x5 x6 x8 x10 x10) else (F_X4_seen_135 k76 (va_up (va_up s0 (7 + x6.toNatClampNeg) q1.2.1) 2 q1.2.2) x3 x4 x5 x6 x8 x10 x9))))
set_option maxHeartbeats 4000000 in
set_option maxRecDepth 100000 in
theorem B_X4_seen_108 {X : bb_X} (C : bb_C X RX4 cX4_seen 11) (hR : bb_r X 7) (hr : X.meth.sig.returnType = (some .int)) (h : Nat → Nat → Nat) {z : (Int32 × bb_H)} (R : bb_R X (some (.int z.1)) (wX4 X.cs h z.2)) {k76 : bb_H → Int32 → Int32 → Int32 → Int32 → Int32 → Int32 → Int32 → Option (Int32 × bb_H)} (hk76 : ∀ (s0 : bb_H) (x3 : Int32) (x4 : Int32) (x5 : Int32) (x6 : Int32) (x8 : Int32) (x9 : Int32) (x10 : Int32), k76 s0 x3 x4 x5 x6 x8 x9 x10 = some z → bb_Z X 11 (wX4 X.cs h s0) 76 [(0, .ref (h 5 0)), (3, .int x3), (4, .int x4), (5, .int x5), (6, .ref (h (7 + x6.toNatClampNeg) 0)), (8, .int x8), (9, .int x9), (10, .int x10)] []) {s0 : bb_H} {x3 : Int32} {x4 : Int32} {x5 : Int32} {x6 : Int32} {x8 : Int32} {x9 : Int32} {x10 : Int32} (hf : F_X4_seen_108 k76 s0 x3 x4 x5 x6 x8 x9 x10 = some z) : bb_Z X 11 (wX4 X.cs h s0) 108 [(0, .ref (h 5 0)), (3, .int x3), (4, .int x4), (5, .int x5), (6, .ref (h (7 + x6.toNatClampNeg) 0)), (8, .int x8), (9, .int x9), (10, .int x10)] [] := by
  refine z_aload (pc := 108) C 4 dX4_seen_108 rfl ?_
  refine z_aload_n (pc := 110) (i := 0) C 0 dX4_seen_110 rfl rfl ?_
  refine z_get (pc := 111) (ci := 4) C (.ref (h 2 0)) bi_X4 rfl 0 2 (by decide) rfl bf_X4_23 rfl rfl dX4_seen_111 ?_
  refine z_iload_n (pc := 114) (i := 3) C 1 dX4_seen_114 rfl rfl ?_
  refine z_iload (pc := 115) C 2 dX4_seen_115 rfl ?_
  obtain ⟨hv2, hf⟩ := bb_g_some hf
  obtain ⟨q1, hq1, hf⟩ := bb_b_some hf
  refine z_callVi (pc := 117) (ci := 2) (q0 := 0) (As := [.ref (h 2 0), .int x3, .int x4]) (rest := []) (ws' := wX4 X.cs h (va_up (va_up s0 (7 + x6.toNatClampNeg) q1.2.1) 2 q1.2.2)) C (hR.le (by decide)) (c_X2_tellsOf (h (7 + x6.toNatClampNeg)) (h 2) hq1) (bb_rowcut2 _ _ _ (bb_inN hv2) _ _) bv_X2_tellsOf bm_X4_201 rfl rfl rfl rfl (Nat.le_of_ble_eq_true rfl) dX4_seen_117 ?_
  refine z_if_eq (pc := 120) C 140 dX4_seen_120 (by decide) (fun hc3 => ?_) (fun hc3 => ?_)
  · have hf := bb_t hf hc3
    exact B_X4_seen_140 C hR hr h R hk76 hf
  · have hf := bb_e hf hc3
    refine z_iload (pc := 123) C 5 dX4_seen_123 rfl ?_
    refine z_if_ne (pc := 125) C 133 dX4_seen_125 (by decide) (fun hc4 => ?_) (fun hc4 => ?_)
    · have hf := bb_e hf hc4
      refine z_iload (pc := 133) C 6 dX4_seen_133 rfl ?_
      refine z_lv [0, 1, 2, 3, 4, 5, 7] rfl ?_
      exact B_X4_seen_135 C hR hr h R hk76 hf
    · have hf := bb_t hf hc4
      refine z_iload (pc := 128) C 7 dX4_seen_128 rfl ?_
      refine z_goto (pc := 130) C 135 dX4_seen_130 (by decide) ?_
      refine z_lv [0, 1, 2, 3, 4, 5, 7] rfl ?_
      exact B_X4_seen_135 C hR hr h R hk76 hf
noncomputable def G_X4_seen_76 (k76 : bb_H → Int32 → Int32 → Int32 → Int32 → Int32 → Int32 → Int32 → Option (Int32 × bb_H)) (s0 : bb_H) (x3 : Int32) (x4 : Int32) (x5 : Int32) (x6 : Int32) (x8 : Int32) (x9 : Int32) (x10 : Int32) : Option (Int32 × bb_H) := (F_X0_cells_0 ((s0 0))).bind (fun q1 => if q1 ≤ x10 then (if x5 = 0 then (F_X4_seen_158 s0 x8) else (F_X4_seen_158 s0 x9)) else ((F_X0_take_0 ((s0 2)) ((s0 0))).bind (fun q4 => F_X4_seen_108 k76 (va_up (va_up (va_up s0 2 q4.1) 0 q4.2) 2 (bb_sf (((va_up (va_up s0 2 q4.1) 0 q4.2) 2)) 3 x10)) x3 x4 x5 x6 x8 x9 x10)))
noncomputable def F_X4_seen_76  : Nat → bb_H → Int32 → Int32 → Int32 → Int32 → Int32 → Int32 → Int32 → Option (Int32 × bb_H)
  | 0, _, _, _, _, _, _, _, _ => none
  | n + 1, s0, x3, x4, x5, x6, x8, x9, x10 => G_X4_seen_76  (F_X4_seen_76  n) s0 x3 x4 x5 x6 x8 x9 x10
set_option maxHeartbeats 4000000 in
set_option maxRecDepth 100000 in
theorem A_X4_seen_76 {X : bb_X} (C : bb_C X RX4 cX4_seen 11) (hR : bb_r X 7) (hr : X.meth.sig.returnType = (some .int)) (h : Nat → Nat → Nat) {z : (Int32 × bb_H)} (R : bb_R X (some (.int z.1)) (wX4 X.cs h z.2)) {k76 : bb_H → Int32 → Int32 → Int32 → Int32 → Int32 → Int32 → Int32 → Option (Int32 × bb_H)} (hk76 : ∀ (s0 : bb_H) (x3 : Int32) (x4 : Int32) (x5 : Int32) (x6 : Int32) (x8 : Int32) (x9 : Int32) (x10 : Int32), k76 s0 x3 x4 x5 x6 x8 x9 x10 = some z → bb_Z X 11 (wX4 X.cs h s0) 76 [(0, .ref (h 5 0)), (3, .int x3), (4, .int x4), (5, .int x5), (6, .ref (h (7 + x6.toNatClampNeg) 0)), (8, .int x8), (9, .int x9), (10, .int x10)] []) {s0 : bb_H} {x3 : Int32} {x4 : Int32} {x5 : Int32} {x6 : Int32} {x8 : Int32} {x9 : Int32} {x10 : Int32} (hf : G_X4_seen_76 k76 s0 x3 x4 x5 x6 x8 x9 x10 = some z) : bb_Z X 11 (wX4 X.cs h s0) 76 [(0, .ref (h 5 0)), (3, .int x3), (4, .int x4), (5, .int x5), (6, .ref (h (7 + x6.toNatClampNeg) 0)), (8, .int x8), (9, .int x9), (10, .int x10)] [] := by
  refine z_iload (pc := 76) C 7 dX4_seen_76 rfl ?_
  refine z_aload_n (pc := 78) (i := 0) C 0 dX4_seen_78 rfl rfl ?_
  refine z_get (pc := 79) (ci := 4) C (.ref (h 0 0)) bi_X4 rfl 0 0 (by decide) rfl bf_X4_10 rfl rfl dX4_seen_79 ?_
  obtain ⟨q1, hq1, hf⟩ := bb_b_some hf
  refine z_callVi (pc := 82) (ci := 0) (q0 := 0) (As := []) (rest := [.int x10]) C (hR.le (by decide)) (c_X0_cells (h 0) hq1) (cutp_X4_0 _ _ _) bv_X0_cells bm_X4_57 rfl rfl rfl rfl (Nat.le_of_ble_eq_true rfl) dX4_seen_82 ?_
  refine z_icmp_ge (pc := 85) C 146 dX4_seen_85 (by decide) (fun hc2 => ?_) (fun hc2 => ?_)
  · have hf := bb_t hf hc2
    refine z_iload (pc := 146) C 3 dX4_seen_146 rfl ?_
    refine z_if_ne (pc := 148) C 156 dX4_seen_148 (by decide) (fun hc3 => ?_) (fun hc3 => ?_)
    · have hf := bb_e hf hc3
      refine z_iload (pc := 156) C 6 dX4_seen_156 rfl ?_
      refine z_lv [] rfl ?_
      exact B_X4_seen_158 C hR hr h R  hf
    · have hf := bb_t hf hc3
      refine z_iload (pc := 151) C 5 dX4_seen_151 rfl ?_
      refine z_goto (pc := 153) C 158 dX4_seen_153 (by decide) ?_
      refine z_lv [] rfl ?_
      exact B_X4_seen_158 C hR hr h R  hf
  · have hf := bb_e hf hc2
    refine z_aload_n (pc := 88) (i := 0) C 0 dX4_seen_88 rfl rfl ?_
    refine z_get (pc := 89) (ci := 4) C (.ref (h 2 0)) bi_X4 rfl 0 2 (by decide) rfl bf_X4_23 rfl rfl dX4_seen_89 ?_
    refine z_aload_n (pc := 92) (i := 0) C 0 dX4_seen_92 rfl rfl ?_
    refine z_get (pc := 93) (ci := 4) C (.ref (h 0 0)) bi_X4 rfl 0 0 (by decide) rfl bf_X4_10 rfl rfl dX4_seen_93 ?_
    obtain ⟨q4, hq4, hf⟩ := bb_b_some hf
    refine z_callVv (pc := 96) (ci := 0) (q0 := 0) (As := [.ref (h 0 0)]) (rest := []) (ws' := wX4 X.cs h (va_up (va_up s0 2 q4.1) 0 q4.2)) C (hR.le (by decide)) (c_X0_take (h 2) (h 0) hq4) (cut_X4_2_0 _ _ _ _ _) bv_X0_take bm_X4_111 rfl rfl rfl rfl (Nat.le_of_ble_eq_true rfl) dX4_seen_96 ?_
    refine z_aload_n (pc := 99) (i := 0) C 0 dX4_seen_99 rfl rfl ?_
    refine z_get (pc := 100) (ci := 4) C (.ref (h 2 0)) bi_X4 rfl 0 2 (by decide) rfl bf_X4_23 rfl rfl dX4_seen_100 ?_
    refine z_iload (pc := 103) C 7 dX4_seen_103 rfl ?_
    refine z_put (pc := 105) (ci := 0) (ty := .int) (ws' := wX4 X.cs h (va_up (va_up (va_up s0 2 q4.1) 0 q4.2) 2 (bb_sf (((va_up (va_up s0 2 q4.1) 0 q4.2) 2)) 3 x10))) C bi_X0 tyX0_ok nmX0 rfl 18 3 (by decide) rfl bf_X4_128 rfl rfl rfl rfl rfl (Nat.le_of_ble_eq_true rfl) rfl dX4_seen_105 ?_
    exact B_X4_seen_108 C hR hr h R hk76 hf
theorem B_X4_seen_76 {X : bb_X} (C : bb_C X RX4 cX4_seen 11) (hR : bb_r X 7) (hr : X.meth.sig.returnType = (some .int)) (h : Nat → Nat → Nat) {z : (Int32 × bb_H)} (R : bb_R X (some (.int z.1)) (wX4 X.cs h z.2)) : ∀ (n : Nat) (s0 : bb_H) (x3 : Int32) (x4 : Int32) (x5 : Int32) (x6 : Int32) (x8 : Int32) (x9 : Int32) (x10 : Int32), F_X4_seen_76  n s0 x3 x4 x5 x6 x8 x9 x10 = some z → bb_Z X 11 (wX4 X.cs h s0) 76 [(0, .ref (h 5 0)), (3, .int x3), (4, .int x4), (5, .int x5), (6, .ref (h (7 + x6.toNatClampNeg) 0)), (8, .int x8), (9, .int x9), (10, .int x10)] [] := by
  intro n
  induction n with
  | zero =>
    intro s0 x3 x4 x5 x6 x8 x9 x10 hf
    cases hf
  | succ n ih =>
    intro s0 x3 x4 x5 x6 x8 x9 x10 hf
    exact A_X4_seen_76 C hR hr h R  ih hf
noncomputable def F_X4_seen_0 (s0 : bb_H) (x1 : Int32) (x2 : Int32) (x3 : Int32) (x4 : Int32) (x5 : Int32) : Option (Int32 × bb_H) := (F_X4_isNoSheet_0 x1).bind (fun q1 => if q1 = 0 then ((F_X4_outside_0 x2 ((0 : Int32)) ((3 : Int32))).bind (fun q3 => if q3 = 0 then ((F_X4_outside_0 x4 ((1 : Int32)) ((8 : Int32))).bind (fun q5 => if q5 = 0 then ((F_X4_outside_0 x5 ((0 : Int32)) ((1 : Int32))).bind (fun q7 => if q7 = 0 then (bb_g (vp_in x1 4) (bb_g (vp_in x1 4) ((F_X2_faultOf_0 (s0 (7 + x1.toNatClampNeg)) x2 x3 x4).bind (fun q10 => if 0 ≤ q10 then (F_X4_seen_76 bb_N s0 x3 x4 x5 x1 ((0 : Int32)) ((-4 : Int32)) ((0 : Int32))) else (some (q10, s0)))))) else (F_X4_seen_37 s0))) else (F_X4_seen_37 s0))) else (F_X4_seen_37 s0))) else (F_X4_seen_37 s0))
set_option maxHeartbeats 4000000 in
set_option maxRecDepth 100000 in
theorem B_X4_seen_0 {X : bb_X} (C : bb_C X RX4 cX4_seen 11) (hR : bb_r X 7) (hr : X.meth.sig.returnType = (some .int)) (h : Nat → Nat → Nat) {z : (Int32 × bb_H)} (R : bb_R X (some (.int z.1)) (wX4 X.cs h z.2)) {s0 : bb_H} {x1 : Int32} {x2 : Int32} {x3 : Int32} {x4 : Int32} {x5 : Int32} (hf : F_X4_seen_0 s0 x1 x2 x3 x4 x5 = some z) : bb_Z X 11 (wX4 X.cs h s0) 0 [(0, .ref (h 5 0)), (1, .int x1), (2, .int x2), (3, .int x3), (4, .int x4), (5, .int x5)] [] := by
  refine z_iload_n (pc := 0) (i := 1) C 1 dX4_seen_0 rfl rfl ?_
  obtain ⟨q1, hq1, hf⟩ := bb_b_some hf
  refine z_callSi (pc := 1) (As := [.int x1]) (rest := []) C (hR.le (by decide)) (c_X4_isNoSheet hq1) (bb_cut_none _) bv_X4_isNoSheet bm_X4_194 rfl rfl (Nat.le_of_ble_eq_true rfl) dX4_seen_1 ?_
  refine z_if_ne (pc := 4) C 37 dX4_seen_4 (by decide) (fun hc2 => ?_) (fun hc2 => ?_)
  · have hf := bb_e hf hc2
    refine z_lv [] rfl ?_
    exact B_X4_seen_37 C hR hr h R  hf
  · have hf := bb_t hf hc2
    refine z_iload_n (pc := 7) (i := 2) C 2 dX4_seen_7 rfl rfl ?_
    refine z_iconst (pc := 8) C (0 : Int32) dX4_seen_8 (by decide) ?_
    refine z_iconst (pc := 9) C (3 : Int32) dX4_seen_9 (by decide) ?_
    obtain ⟨q3, hq3, hf⟩ := bb_b_some hf
    refine z_callSi (pc := 10) (As := [.int x2, .int ((0 : Int32)), .int ((3 : Int32))]) (rest := []) C (hR.le (by decide)) (c_X4_outside hq3) (bb_cut_none _) bv_X4_outside bm_X4_46 rfl rfl (Nat.le_of_ble_eq_true rfl) dX4_seen_10 ?_
    refine z_if_ne (pc := 13) C 37 dX4_seen_13 (by decide) (fun hc4 => ?_) (fun hc4 => ?_)
    · have hf := bb_e hf hc4
      refine z_lv [] rfl ?_
      exact B_X4_seen_37 C hR hr h R  hf
    · have hf := bb_t hf hc4
      refine z_iload (pc := 16) C 4 dX4_seen_16 rfl ?_
      refine z_iconst (pc := 18) C (1 : Int32) dX4_seen_18 (by decide) ?_
      refine z_bipush (pc := 19) C (8 : Int32) dX4_seen_19 (by decide) ?_
      obtain ⟨q5, hq5, hf⟩ := bb_b_some hf
      refine z_callSi (pc := 21) (As := [.int x4, .int ((1 : Int32)), .int ((8 : Int32))]) (rest := []) C (hR.le (by decide)) (c_X4_outside hq5) (bb_cut_none _) bv_X4_outside bm_X4_46 rfl rfl (Nat.le_of_ble_eq_true rfl) dX4_seen_21 ?_
      refine z_if_ne (pc := 24) C 37 dX4_seen_24 (by decide) (fun hc6 => ?_) (fun hc6 => ?_)
      · have hf := bb_e hf hc6
        refine z_lv [] rfl ?_
        exact B_X4_seen_37 C hR hr h R  hf
      · have hf := bb_t hf hc6
        refine z_iload (pc := 27) C 5 dX4_seen_27 rfl ?_
        refine z_iconst (pc := 29) C (0 : Int32) dX4_seen_29 (by decide) ?_
        refine z_iconst (pc := 30) C (1 : Int32) dX4_seen_30 (by decide) ?_
        obtain ⟨q7, hq7, hf⟩ := bb_b_some hf
        refine z_callSi (pc := 31) (As := [.int x5, .int ((0 : Int32)), .int ((1 : Int32))]) (rest := []) C (hR.le (by decide)) (c_X4_outside hq7) (bb_cut_none _) bv_X4_outside bm_X4_46 rfl rfl (Nat.le_of_ble_eq_true rfl) dX4_seen_31 ?_
        refine z_if_eq (pc := 34) C 39 dX4_seen_34 (by decide) (fun hc8 => ?_) (fun hc8 => ?_)
        · have hf := bb_t hf hc8
          refine z_aload_n (pc := 39) (i := 0) C 0 dX4_seen_39 rfl rfl ?_
          refine z_get (pc := 40) (ci := 4) C (.ref (h 5 8)) bi_X4 rfl 0 7 (by decide) rfl bf_X4_41 rfl rfl dX4_seen_40 ?_
          refine z_iload_n (pc := 43) (i := 1) C 1 dX4_seen_43 rfl rfl ?_
          obtain ⟨hv9, hf⟩ := bb_g_some hf
          refine z_aald (pc := 44) (b := h (7 + x1.toNatClampNeg) 0) C 1 4 rfl rfl rfl hv9 (if_pos (bb_inN hv9)) dX4_seen_44 ?_
          refine z_astore (pc := 45) (lv' := [(6, .ref (h (7 + x1.toNatClampNeg) 0)), (0, .ref (h 5 0)), (1, .int x1), (2, .int x2), (3, .int x3), (4, .int x4), (5, .int x5)]) C dX4_seen_45 (by decide) rfl ?_
          refine z_aload (pc := 47) C 0 dX4_seen_47 rfl ?_
          refine z_iload_n (pc := 49) (i := 2) C 3 dX4_seen_49 rfl rfl ?_
          refine z_iload_n (pc := 50) (i := 3) C 4 dX4_seen_50 rfl rfl ?_
          refine z_iload (pc := 51) C 5 dX4_seen_51 rfl ?_
          obtain ⟨hv11, hf⟩ := bb_g_some hf
          obtain ⟨q10, hq10, hf⟩ := bb_b_some hf
          refine z_callVi (pc := 53) (ci := 2) (q0 := 0) (As := [.int x2, .int x3, .int x4]) (rest := []) C (hR.le (by decide)) (c_X2_faultOf (h (7 + x1.toNatClampNeg)) hq10) (bb_rowcutp _ _ _ (bb_inN hv11)) bv_X2_faultOf bm_X4_197 rfl rfl rfl rfl (Nat.le_of_ble_eq_true rfl) dX4_seen_53 ?_
          refine z_istore (pc := 56) (lv' := [(7, .int q10), (6, .ref (h (7 + x1.toNatClampNeg) 0)), (0, .ref (h 5 0)), (1, .int x1), (2, .int x2), (3, .int x3), (4, .int x4), (5, .int x5)]) C dX4_seen_56 (by decide) rfl ?_
          refine z_iload (pc := 58) C 0 dX4_seen_58 rfl ?_
          refine z_if_ge (pc := 60) C 66 dX4_seen_60 (by decide) (fun hc12 => ?_) (fun hc12 => ?_)
          · have hf := bb_t hf hc12
            refine z_iconst (pc := 66) C (0 : Int32) dX4_seen_66 (by decide) ?_
            refine z_istore (pc := 67) (lv' := [(8, .int ((0 : Int32))), (7, .int q10), (6, .ref (h (7 + x1.toNatClampNeg) 0)), (0, .ref (h 5 0)), (1, .int x1), (2, .int x2), (3, .int x3), (4, .int x4), (5, .int x5)]) C dX4_seen_67 (by decide) rfl ?_
            refine z_bipush (pc := 69) C (-4 : Int32) dX4_seen_69 (by decide) ?_
            refine z_istore (pc := 71) (lv' := [(9, .int ((-4 : Int32))), (8, .int ((0 : Int32))), (7, .int q10), (6, .ref (h (7 + x1.toNatClampNeg) 0)), (0, .ref (h 5 0)), (1, .int x1), (2, .int x2), (3, .int x3), (4, .int x4), (5, .int x5)]) C dX4_seen_71 (by decide) rfl ?_
            refine z_iconst (pc := 73) C (0 : Int32) dX4_seen_73 (by decide) ?_
            refine z_istore (pc := 74) (lv' := [(10, .int ((0 : Int32))), (9, .int ((-4 : Int32))), (8, .int ((0 : Int32))), (7, .int q10), (6, .ref (h (7 + x1.toNatClampNeg) 0)), (0, .ref (h 5 0)), (1, .int x1), (2, .int x2), (3, .int x3), (4, .int x4), (5, .int x5)]) C dX4_seen_74 (by decide) rfl ?_
            refine z_lv [5, 8, 9, 10, 4, 2, 1, 0] rfl ?_
            exact B_X4_seen_76 C hR hr h R  bb_N _ _ _ _ _ _ _ _ hf
          · have hf := bb_e hf hc12
            refine z_iload (pc := 63) C 0 dX4_seen_63 rfl ?_
            obtain rfl := Option.some.inj hf
            exact z_iret (pc := 65) C hr R dX4_seen_65
        · have hf := bb_e hf hc8
          refine z_lv [] rfl ?_
          exact B_X4_seen_37 C hR hr h R  hf
theorem c_X4_seen {l : Launch} {D : va_G} {cs : Nat → ClassId} (h : Nat → Nat → Nat) {s0 : bb_H} {x1 : Int32} {x2 : Int32} {x3 : Int32} {x4 : Int32} {x5 : Int32} {z : (Int32 × bb_H)} (hf : F_X4_seen_0 s0 x1 x2 x3 x4 x5 = some z) : bb_M l yX4_seen cX4_seen 11 (some .int) 7 D cs [.ref (h 5 0), .int x1, .int x2, .int x3, .int x4, .int x5] (some (.int z.1)) (wX4 cs h s0) (wX4 cs h z.2) := bb_mg (by decide) rfl (Nat.le_of_ble_eq_true rfl) rfl (fun X hl hD hcs C hR hr R => by
  subst hl
  subst hD
  subst hcs
  exact B_X4_seen_0 C hR hr h R hf)
/-! X4_film: writes, level 6 -/
noncomputable def F_X4_film_26 (s0 : bb_H) : Option (Int32 × bb_H) := some ((-1 : Int32), s0)
set_option maxHeartbeats 4000000 in
set_option maxRecDepth 100000 in
theorem B_X4_film_26 {X : bb_X} (C : bb_C X RX4 cX4_film 8) (hR : bb_r X 6) (hr : X.meth.sig.returnType = (some .int)) (h : Nat → Nat → Nat) {z : (Int32 × bb_H)} (R : bb_R X (some (.int z.1)) (wX4 X.cs h z.2)) {s0 : bb_H} (hf : F_X4_film_26 s0 = some z) : bb_Z X 8 (wX4 X.cs h s0) 26 [] [] := by
  refine z_iconst (pc := 26) C (-1 : Int32) dX4_film_26 (by decide) ?_
  obtain rfl := Option.some.inj hf
  exact z_iret (pc := 27) C hr R dX4_film_27
noncomputable def G_X4_film_69 (k69 : bb_H → Int32 → Int32 → Int32 → Int32 → Option (Int32 × bb_H)) (s0 : bb_H) (x1 : Int32) (x4 : Int32) (x5 : Int32) (x7 : Int32) : Option (Int32 × bb_H) := if x1 ≤ x7 then (some (x1, s0)) else ((F_X0_pass_0 ((s0 2))).bind (fun q2 => bb_g (vp_in x5 4) ((F_X2_put_0 ((va_up s0 2 q2.2) (7 + x5.toNatClampNeg)) (x4 + x7) (((((va_up s0 2 q2.2) 2)).1 3).toInt64)).bind (fun q3 => k69 (va_up (va_up s0 2 q2.2) (7 + x5.toNatClampNeg) q3) x1 x4 x5 (x7 + 1)))))
noncomputable def F_X4_film_69  : Nat → bb_H → Int32 → Int32 → Int32 → Int32 → Option (Int32 × bb_H)
  | 0, _, _, _, _, _ => none
  | n + 1, s0, x1, x4, x5, x7 => G_X4_film_69  (F_X4_film_69  n) s0 x1 x4 x5 x7
set_option maxHeartbeats 4000000 in
set_option maxRecDepth 100000 in
theorem A_X4_film_69 {X : bb_X} (C : bb_C X RX4 cX4_film 8) (hR : bb_r X 6) (hr : X.meth.sig.returnType = (some .int)) (h : Nat → Nat → Nat) {z : (Int32 × bb_H)} (R : bb_R X (some (.int z.1)) (wX4 X.cs h z.2)) {k69 : bb_H → Int32 → Int32 → Int32 → Int32 → Option (Int32 × bb_H)} (hk69 : ∀ (s0 : bb_H) (x1 : Int32) (x4 : Int32) (x5 : Int32) (x7 : Int32), k69 s0 x1 x4 x5 x7 = some z → bb_Z X 8 (wX4 X.cs h s0) 69 [(0, .ref (h 5 0)), (1, .int x1), (4, .int x4), (5, .ref (h (7 + x5.toNatClampNeg) 0)), (7, .int x7)] []) {s0 : bb_H} {x1 : Int32} {x4 : Int32} {x5 : Int32} {x7 : Int32} (hf : G_X4_film_69 k69 s0 x1 x4 x5 x7 = some z) : bb_Z X 8 (wX4 X.cs h s0) 69 [(0, .ref (h 5 0)), (1, .int x1), (4, .int x4), (5, .ref (h (7 + x5.toNatClampNeg) 0)), (7, .int x7)] [] := by
  refine z_iload (pc := 69) C 4 dX4_film_69 rfl ?_
  refine z_iload_n (pc := 71) (i := 1) C 1 dX4_film_71 rfl rfl ?_
  refine z_icmp_ge (pc := 72) C 107 dX4_film_72 (by decide) (fun hc1 => ?_) (fun hc1 => ?_)
  · have hf := bb_t hf hc1
    refine z_iload_n (pc := 107) (i := 1) C 1 dX4_film_107 rfl rfl ?_
    obtain rfl := Option.some.inj hf
    exact z_iret (pc := 108) C hr R dX4_film_108
  · have hf := bb_e hf hc1
    refine z_aload_n (pc := 75) (i := 0) C 0 dX4_film_75 rfl rfl ?_
    refine z_get (pc := 76) (ci := 4) C (.ref (h 2 0)) bi_X4 rfl 0 2 (by decide) rfl bf_X4_23 rfl rfl dX4_film_76 ?_
    obtain ⟨q2, hq2, hf⟩ := bb_b_some hf
    refine z_callVi (pc := 79) (ci := 0) (q0 := 0) (As := []) (rest := []) (ws' := wX4 X.cs h (va_up s0 2 q2.2)) C (hR.le (by decide)) (c_X0_pass (h 2) hq2) (cut_X4_2 _ _ _ _) bv_X0_pass bm_X4_152 rfl rfl rfl rfl (Nat.le_of_ble_eq_true rfl) dX4_film_79 ?_
    refine z_pop (pc := 82) C dX4_film_82 rfl ?_
    refine z_aload (pc := 83) C 3 dX4_film_83 rfl ?_
    refine z_iload (pc := 85) C 2 dX4_film_85 rfl ?_
    refine z_iload (pc := 87) C 4 dX4_film_87 rfl ?_
    refine z_iadd (pc := 89) C dX4_film_89 ?_
    refine z_aload_n (pc := 90) (i := 0) C 0 dX4_film_90 rfl rfl ?_
    refine z_get (pc := 91) (ci := 4) C (.ref (h 2 0)) bi_X4 rfl 0 2 (by decide) rfl bf_X4_23 rfl rfl dX4_film_91 ?_
    refine z_get (pc := 94) (ci := 0) C (.int ((((va_up s0 2 q2.2) 2)).1 3)) bi_X0 rfl 18 3 (by decide) rfl bf_X4_128 rfl rfl dX4_film_94 ?_
    refine z_i2l (pc := 97) C dX4_film_97 ?_
    obtain ⟨hv4, hf⟩ := bb_g_some hf
    obtain ⟨q3, hq3, hf⟩ := bb_b_some hf
    refine z_callVv (pc := 98) (ci := 2) (q0 := 0) (As := [.int (x4 + x7), .long (((((va_up s0 2 q2.2) 2)).1 3).toInt64)]) (rest := []) (ws' := wX4 X.cs h (va_up (va_up s0 2 q2.2) (7 + x5.toNatClampNeg) q3)) C (hR.le (by decide)) (c_X2_put (h (7 + x5.toNatClampNeg)) hq3) (bb_rowcut _ _ _ (bb_inN hv4) _) bv_X2_put bm_X4_205 rfl rfl rfl rfl (Nat.le_of_ble_eq_true rfl) dX4_film_98 ?_
    refine z_iinc (pc := 101) (lv' := [(7, .int (x7 + 1)), (0, .ref (h 5 0)), (1, .int x1), (4, .int x4), (5, .ref (h (7 + x5.toNatClampNeg) 0))]) C (x7 + 1) 4 dX4_film_101 rfl rfl (by decide) rfl ?_
    refine z_goto (pc := 104) C 69 dX4_film_104 (by decide) ?_
    refine z_lv [1, 2, 3, 4, 0] rfl ?_
    exact hk69 _ _ _ _ _ hf
theorem B_X4_film_69 {X : bb_X} (C : bb_C X RX4 cX4_film 8) (hR : bb_r X 6) (hr : X.meth.sig.returnType = (some .int)) (h : Nat → Nat → Nat) {z : (Int32 × bb_H)} (R : bb_R X (some (.int z.1)) (wX4 X.cs h z.2)) : ∀ (n : Nat) (s0 : bb_H) (x1 : Int32) (x4 : Int32) (x5 : Int32) (x7 : Int32), F_X4_film_69  n s0 x1 x4 x5 x7 = some z → bb_Z X 8 (wX4 X.cs h s0) 69 [(0, .ref (h 5 0)), (1, .int x1), (4, .int x4), (5, .ref (h (7 + x5.toNatClampNeg) 0)), (7, .int x7)] [] := by
  intro n
  induction n with
  | zero =>
    intro s0 x1 x4 x5 x7 hf
    cases hf
  | succ n ih =>
    intro s0 x1 x4 x5 x7 hf
    exact A_X4_film_69 C hR hr h R  ih hf
noncomputable def F_X4_film_0 (s0 : bb_H) (x1 : Int32) (x2 : Int32) (x3 : Int32) (x4 : Int32) : Option (Int32 × bb_H) := (F_X4_outside_0 x1 ((1 : Int32)) ((24 : Int32))).bind (fun q1 => if q1 = 0 then ((F_X4_isNoSheet_0 x2).bind (fun q3 => if q3 = 0 then ((F_X4_outside_0 x3 ((0 : Int32)) ((3 : Int32))).bind (fun q5 => if q5 = 0 then (bb_g (vp_in x2 4) (bb_g (vp_in x2 4) ((F_X2_faultOf_0 (s0 (7 + x2.toNatClampNeg)) x3 x4 x1).bind (fun q8 => if 0 ≤ q8 then ((F_X0_take_0 ((s0 2)) ((s0 0))).bind (fun q11 => F_X4_film_69 bb_N (va_up (va_up s0 2 q11.1) 0 q11.2) x1 x4 x2 ((0 : Int32)))) else (some (q8, s0)))))) else (F_X4_film_26 s0))) else (F_X4_film_26 s0))) else (F_X4_film_26 s0))
set_option maxHeartbeats 4000000 in
set_option maxRecDepth 100000 in
theorem B_X4_film_0 {X : bb_X} (C : bb_C X RX4 cX4_film 8) (hR : bb_r X 6) (hr : X.meth.sig.returnType = (some .int)) (h : Nat → Nat → Nat) {z : (Int32 × bb_H)} (R : bb_R X (some (.int z.1)) (wX4 X.cs h z.2)) {s0 : bb_H} {x1 : Int32} {x2 : Int32} {x3 : Int32} {x4 : Int32} (hf : F_X4_film_0 s0 x1 x2 x3 x4 = some z) : bb_Z X 8 (wX4 X.cs h s0) 0 [(0, .ref (h 5 0)), (1, .int x1), (2, .int x2), (3, .int x3), (4, .int x4)] [] := by
  refine z_iload_n (pc := 0) (i := 1) C 1 dX4_film_0 rfl rfl ?_
  refine z_iconst (pc := 1) C (1 : Int32) dX4_film_1 (by decide) ?_
  refine z_bipush (pc := 2) C (24 : Int32) dX4_film_2 (by decide) ?_
  obtain ⟨q1, hq1, hf⟩ := bb_b_some hf
  refine z_callSi (pc := 4) (As := [.int x1, .int ((1 : Int32)), .int ((24 : Int32))]) (rest := []) C (hR.le (by decide)) (c_X4_outside hq1) (bb_cut_none _) bv_X4_outside bm_X4_46 rfl rfl (Nat.le_of_ble_eq_true rfl) dX4_film_4 ?_
  refine z_if_ne (pc := 7) C 26 dX4_film_7 (by decide) (fun hc2 => ?_) (fun hc2 => ?_)
  · have hf := bb_e hf hc2
    refine z_lv [] rfl ?_
    exact B_X4_film_26 C hR hr h R  hf
  · have hf := bb_t hf hc2
    refine z_iload_n (pc := 10) (i := 2) C 2 dX4_film_10 rfl rfl ?_
    obtain ⟨q3, hq3, hf⟩ := bb_b_some hf
    refine z_callSi (pc := 11) (As := [.int x2]) (rest := []) C (hR.le (by decide)) (c_X4_isNoSheet hq3) (bb_cut_none _) bv_X4_isNoSheet bm_X4_194 rfl rfl (Nat.le_of_ble_eq_true rfl) dX4_film_11 ?_
    refine z_if_ne (pc := 14) C 26 dX4_film_14 (by decide) (fun hc4 => ?_) (fun hc4 => ?_)
    · have hf := bb_e hf hc4
      refine z_lv [] rfl ?_
      exact B_X4_film_26 C hR hr h R  hf
    · have hf := bb_t hf hc4
      refine z_iload_n (pc := 17) (i := 3) C 3 dX4_film_17 rfl rfl ?_
      refine z_iconst (pc := 18) C (0 : Int32) dX4_film_18 (by decide) ?_
      refine z_iconst (pc := 19) C (3 : Int32) dX4_film_19 (by decide) ?_
      obtain ⟨q5, hq5, hf⟩ := bb_b_some hf
      refine z_callSi (pc := 20) (As := [.int x3, .int ((0 : Int32)), .int ((3 : Int32))]) (rest := []) C (hR.le (by decide)) (c_X4_outside hq5) (bb_cut_none _) bv_X4_outside bm_X4_46 rfl rfl (Nat.le_of_ble_eq_true rfl) dX4_film_20 ?_
      refine z_if_eq (pc := 23) C 28 dX4_film_23 (by decide) (fun hc6 => ?_) (fun hc6 => ?_)
      · have hf := bb_t hf hc6
        refine z_aload_n (pc := 28) (i := 0) C 0 dX4_film_28 rfl rfl ?_
        refine z_get (pc := 29) (ci := 4) C (.ref (h 5 8)) bi_X4 rfl 0 7 (by decide) rfl bf_X4_41 rfl rfl dX4_film_29 ?_
        refine z_iload_n (pc := 32) (i := 2) C 2 dX4_film_32 rfl rfl ?_
        obtain ⟨hv7, hf⟩ := bb_g_some hf
        refine z_aald (pc := 33) (b := h (7 + x2.toNatClampNeg) 0) C 1 4 rfl rfl rfl hv7 (if_pos (bb_inN hv7)) dX4_film_33 ?_
        refine z_astore (pc := 34) (lv' := [(5, .ref (h (7 + x2.toNatClampNeg) 0)), (0, .ref (h 5 0)), (1, .int x1), (2, .int x2), (3, .int x3), (4, .int x4)]) C dX4_film_34 (by decide) rfl ?_
        refine z_aload (pc := 36) C 0 dX4_film_36 rfl ?_
        refine z_iload_n (pc := 38) (i := 3) C 4 dX4_film_38 rfl rfl ?_
        refine z_iload (pc := 39) C 5 dX4_film_39 rfl ?_
        refine z_iload_n (pc := 41) (i := 1) C 2 dX4_film_41 rfl rfl ?_
        obtain ⟨hv9, hf⟩ := bb_g_some hf
        obtain ⟨q8, hq8, hf⟩ := bb_b_some hf
        refine z_callVi (pc := 42) (ci := 2) (q0 := 0) (As := [.int x3, .int x4, .int x1]) (rest := []) C (hR.le (by decide)) (c_X2_faultOf (h (7 + x2.toNatClampNeg)) hq8) (bb_rowcutp _ _ _ (bb_inN hv9)) bv_X2_faultOf bm_X4_197 rfl rfl rfl rfl (Nat.le_of_ble_eq_true rfl) dX4_film_42 ?_
        refine z_istore (pc := 45) (lv' := [(6, .int q8), (5, .ref (h (7 + x2.toNatClampNeg) 0)), (0, .ref (h 5 0)), (1, .int x1), (2, .int x2), (3, .int x3), (4, .int x4)]) C dX4_film_45 (by decide) rfl ?_
        refine z_iload (pc := 47) C 0 dX4_film_47 rfl ?_
        refine z_if_ge (pc := 49) C 55 dX4_film_49 (by decide) (fun hc10 => ?_) (fun hc10 => ?_)
        · have hf := bb_t hf hc10
          refine z_aload_n (pc := 55) (i := 0) C 2 dX4_film_55 rfl rfl ?_
          refine z_get (pc := 56) (ci := 4) C (.ref (h 2 0)) bi_X4 rfl 0 2 (by decide) rfl bf_X4_23 rfl rfl dX4_film_56 ?_
          refine z_aload_n (pc := 59) (i := 0) C 2 dX4_film_59 rfl rfl ?_
          refine z_get (pc := 60) (ci := 4) C (.ref (h 0 0)) bi_X4 rfl 0 0 (by decide) rfl bf_X4_10 rfl rfl dX4_film_60 ?_
          obtain ⟨q11, hq11, hf⟩ := bb_b_some hf
          refine z_callVv (pc := 63) (ci := 0) (q0 := 0) (As := [.ref (h 0 0)]) (rest := []) (ws' := wX4 X.cs h (va_up (va_up s0 2 q11.1) 0 q11.2)) C (hR.le (by decide)) (c_X0_take (h 2) (h 0) hq11) (cut_X4_2_0 _ _ _ _ _) bv_X0_take bm_X4_111 rfl rfl rfl rfl (Nat.le_of_ble_eq_true rfl) dX4_film_63 ?_
          refine z_iconst (pc := 66) C (0 : Int32) dX4_film_66 (by decide) ?_
          refine z_istore (pc := 67) (lv' := [(7, .int ((0 : Int32))), (6, .int q8), (5, .ref (h (7 + x2.toNatClampNeg) 0)), (0, .ref (h 5 0)), (1, .int x1), (2, .int x2), (3, .int x3), (4, .int x4)]) C dX4_film_67 (by decide) rfl ?_
          refine z_lv [3, 4, 7, 2, 0] rfl ?_
          exact B_X4_film_69 C hR hr h R  bb_N _ _ _ _ _ hf
        · have hf := bb_e hf hc10
          refine z_iload (pc := 52) C 0 dX4_film_52 rfl ?_
          obtain rfl := Option.some.inj hf
          exact z_iret (pc := 54) C hr R dX4_film_54
      · have hf := bb_e hf hc6
        refine z_lv [] rfl ?_
        exact B_X4_film_26 C hR hr h R  hf
theorem c_X4_film {l : Launch} {D : va_G} {cs : Nat → ClassId} (h : Nat → Nat → Nat) {s0 : bb_H} {x1 : Int32} {x2 : Int32} {x3 : Int32} {x4 : Int32} {z : (Int32 × bb_H)} (hf : F_X4_film_0 s0 x1 x2 x3 x4 = some z) : bb_M l yX4_film cX4_film 8 (some .int) 6 D cs [.ref (h 5 0), .int x1, .int x2, .int x3, .int x4] (some (.int z.1)) (wX4 cs h s0) (wX4 cs h z.2) := bb_mg (by decide) rfl (Nat.le_of_ble_eq_true rfl) rfl (fun X hl hD hcs C hR hr R => by
  subst hl
  subst hD
  subst hcs
  exact B_X4_film_0 C hR hr h R hf)
/-! X4_sheet: writes, level 3 -/
noncomputable def F_X4_sheet_22 (s0 : bb_H) : Option (Int32 × bb_H) := some ((-1 : Int32), s0)
set_option maxHeartbeats 4000000 in
set_option maxRecDepth 100000 in
theorem B_X4_sheet_22 {X : bb_X} (C : bb_C X RX4 cX4_sheet 4) (hR : bb_r X 3) (hr : X.meth.sig.returnType = (some .int)) (h : Nat → Nat → Nat) {z : (Int32 × bb_H)} (R : bb_R X (some (.int z.1)) (wX4 X.cs h z.2)) {s0 : bb_H} (hf : F_X4_sheet_22 s0 = some z) : bb_Z X 4 (wX4 X.cs h s0) 22 [] [] := by
  refine z_iconst (pc := 22) C (-1 : Int32) dX4_sheet_22 (by decide) ?_
  obtain rfl := Option.some.inj hf
  exact z_iret (pc := 23) C hr R dX4_sheet_23
noncomputable def F_X4_sheet_0 (s0 : bb_H) (x1 : Int32) (x2 : Int32) (x3 : Int32) : Option (Int32 × bb_H) := (F_X4_isNoSheet_0 x1).bind (fun q1 => if q1 = 0 then ((F_X4_outside_0 x2 ((0 : Int32)) ((3 : Int32))).bind (fun q3 => if q3 = 0 then (if x3 ≤ ((24 : Int32)) then (if 0 ≤ x3 then (bb_g (vp_in x1 4) (bb_g (vp_in x1 4) ((F_X2_renew_0 (s0 (7 + x1.toNatClampNeg)) x2 x3).bind (fun q8 => some (x3, va_up s0 (7 + x1.toNatClampNeg) q8))))) else (some ((-14 : Int32), s0))) else (F_X4_sheet_22 s0)) else (F_X4_sheet_22 s0))) else (F_X4_sheet_22 s0))
set_option maxHeartbeats 4000000 in
set_option maxRecDepth 100000 in
theorem B_X4_sheet_0 {X : bb_X} (C : bb_C X RX4 cX4_sheet 4) (hR : bb_r X 3) (hr : X.meth.sig.returnType = (some .int)) (h : Nat → Nat → Nat) {z : (Int32 × bb_H)} (R : bb_R X (some (.int z.1)) (wX4 X.cs h z.2)) {s0 : bb_H} {x1 : Int32} {x2 : Int32} {x3 : Int32} (hf : F_X4_sheet_0 s0 x1 x2 x3 = some z) : bb_Z X 4 (wX4 X.cs h s0) 0 [(0, .ref (h 5 0)), (1, .int x1), (2, .int x2), (3, .int x3)] [] := by
  refine z_iload_n (pc := 0) (i := 1) C 1 dX4_sheet_0 rfl rfl ?_
  obtain ⟨q1, hq1, hf⟩ := bb_b_some hf
  refine z_callSi (pc := 1) (As := [.int x1]) (rest := []) C (hR.le (by decide)) (c_X4_isNoSheet hq1) (bb_cut_none _) bv_X4_isNoSheet bm_X4_194 rfl rfl (Nat.le_of_ble_eq_true rfl) dX4_sheet_1 ?_
  refine z_if_ne (pc := 4) C 22 dX4_sheet_4 (by decide) (fun hc2 => ?_) (fun hc2 => ?_)
  · have hf := bb_e hf hc2
    refine z_lv [] rfl ?_
    exact B_X4_sheet_22 C hR hr h R  hf
  · have hf := bb_t hf hc2
    refine z_iload_n (pc := 7) (i := 2) C 2 dX4_sheet_7 rfl rfl ?_
    refine z_iconst (pc := 8) C (0 : Int32) dX4_sheet_8 (by decide) ?_
    refine z_iconst (pc := 9) C (3 : Int32) dX4_sheet_9 (by decide) ?_
    obtain ⟨q3, hq3, hf⟩ := bb_b_some hf
    refine z_callSi (pc := 10) (As := [.int x2, .int ((0 : Int32)), .int ((3 : Int32))]) (rest := []) C (hR.le (by decide)) (c_X4_outside hq3) (bb_cut_none _) bv_X4_outside bm_X4_46 rfl rfl (Nat.le_of_ble_eq_true rfl) dX4_sheet_10 ?_
    refine z_if_ne (pc := 13) C 22 dX4_sheet_13 (by decide) (fun hc4 => ?_) (fun hc4 => ?_)
    · have hf := bb_e hf hc4
      refine z_lv [] rfl ?_
      exact B_X4_sheet_22 C hR hr h R  hf
    · have hf := bb_t hf hc4
      refine z_iload_n (pc := 16) (i := 3) C 3 dX4_sheet_16 rfl rfl ?_
      refine z_bipush (pc := 17) C (24 : Int32) dX4_sheet_17 (by decide) ?_
      refine z_icmp_le (pc := 19) C 24 dX4_sheet_19 (by decide) (fun hc5 => ?_) (fun hc5 => ?_)
      · have hf := bb_t hf hc5
        refine z_iload_n (pc := 24) (i := 3) C 3 dX4_sheet_24 rfl rfl ?_
        refine z_if_ge (pc := 25) C 31 dX4_sheet_25 (by decide) (fun hc6 => ?_) (fun hc6 => ?_)
        · have hf := bb_t hf hc6
          refine z_aload_n (pc := 31) (i := 0) C 0 dX4_sheet_31 rfl rfl ?_
          refine z_get (pc := 32) (ci := 4) C (.ref (h 5 8)) bi_X4 rfl 0 7 (by decide) rfl bf_X4_41 rfl rfl dX4_sheet_32 ?_
          refine z_iload_n (pc := 35) (i := 1) C 1 dX4_sheet_35 rfl rfl ?_
          obtain ⟨hv7, hf⟩ := bb_g_some hf
          refine z_aald (pc := 36) (b := h (7 + x1.toNatClampNeg) 0) C 1 4 rfl rfl rfl hv7 (if_pos (bb_inN hv7)) dX4_sheet_36 ?_
          refine z_iload_n (pc := 37) (i := 2) C 2 dX4_sheet_37 rfl rfl ?_
          refine z_iload_n (pc := 38) (i := 3) C 3 dX4_sheet_38 rfl rfl ?_
          obtain ⟨hv9, hf⟩ := bb_g_some hf
          obtain ⟨q8, hq8, hf⟩ := bb_b_some hf
          refine z_callVv (pc := 39) (ci := 2) (q0 := 0) (As := [.int x2, .int x3]) (rest := []) (ws' := wX4 X.cs h (va_up s0 (7 + x1.toNatClampNeg) q8)) C (hR.le (by decide)) (c_X2_renew (h (7 + x1.toNatClampNeg)) hq8) (bb_rowcut _ _ _ (bb_inN hv9) _) bv_X2_renew bm_X4_209 rfl rfl rfl rfl (Nat.le_of_ble_eq_true rfl) dX4_sheet_39 ?_
          refine z_iload_n (pc := 42) (i := 3) C 3 dX4_sheet_42 rfl rfl ?_
          obtain rfl := Option.some.inj hf
          exact z_iret (pc := 43) C hr R dX4_sheet_43
        · have hf := bb_e hf hc6
          refine z_bipush (pc := 28) C (-14 : Int32) dX4_sheet_28 (by decide) ?_
          obtain rfl := Option.some.inj hf
          exact z_iret (pc := 30) C hr R dX4_sheet_30
      · have hf := bb_e hf hc5
        refine z_lv [] rfl ?_
        exact B_X4_sheet_22 C hR hr h R  hf
theorem c_X4_sheet {l : Launch} {D : va_G} {cs : Nat → ClassId} (h : Nat → Nat → Nat) {s0 : bb_H} {x1 : Int32} {x2 : Int32} {x3 : Int32} {z : (Int32 × bb_H)} (hf : F_X4_sheet_0 s0 x1 x2 x3 = some z) : bb_M l yX4_sheet cX4_sheet 4 (some .int) 3 D cs [.ref (h 5 0), .int x1, .int x2, .int x3] (some (.int z.1)) (wX4 cs h s0) (wX4 cs h z.2) := bb_mg (by decide) rfl (Nat.le_of_ble_eq_true rfl) rfl (fun X hl hD hcs C hR hr R => by
  subst hl
  subst hD
  subst hcs
  exact B_X4_sheet_0 C hR hr h R hf)
/-! X4_drop: writes, level 3 -/
noncomputable def F_X4_drop_0 (s0 : bb_H) (x1 : Int32) : Option (Int32 × bb_H) := (F_X4_isNoSheet_0 x1).bind (fun q1 => if q1 = 0 then (bb_g (vp_in x1 4) (bb_g (vp_in x1 4) ((F_X2_isMissing_0 (s0 (7 + x1.toNatClampNeg))).bind (fun q4 => if q4 = 0 then (bb_g (vp_in x1 4) (bb_g (vp_in x1 4) ((F_X2_lose_0 (s0 (7 + x1.toNatClampNeg))).bind (fun q8 => some (((s0 (7 + x1.toNatClampNeg))).1 1, va_up s0 (7 + x1.toNatClampNeg) q8))))) else (some ((-11 : Int32), s0)))))) else (some ((-1 : Int32), s0)))
set_option maxHeartbeats 4000000 in
set_option maxRecDepth 100000 in
theorem B_X4_drop_0 {X : bb_X} (C : bb_C X RX4 cX4_drop 4) (hR : bb_r X 3) (hr : X.meth.sig.returnType = (some .int)) (h : Nat → Nat → Nat) {z : (Int32 × bb_H)} (R : bb_R X (some (.int z.1)) (wX4 X.cs h z.2)) {s0 : bb_H} {x1 : Int32} (hf : F_X4_drop_0 s0 x1 = some z) : bb_Z X 4 (wX4 X.cs h s0) 0 [(0, .ref (h 5 0)), (1, .int x1)] [] := by
  refine z_iload_n (pc := 0) (i := 1) C 1 dX4_drop_0 rfl rfl ?_
  obtain ⟨q1, hq1, hf⟩ := bb_b_some hf
  refine z_callSi (pc := 1) (As := [.int x1]) (rest := []) C (hR.le (by decide)) (c_X4_isNoSheet hq1) (bb_cut_none _) bv_X4_isNoSheet bm_X4_194 rfl rfl (Nat.le_of_ble_eq_true rfl) dX4_drop_1 ?_
  refine z_if_eq (pc := 4) C 9 dX4_drop_4 (by decide) (fun hc2 => ?_) (fun hc2 => ?_)
  · have hf := bb_t hf hc2
    refine z_aload_n (pc := 9) (i := 0) C 0 dX4_drop_9 rfl rfl ?_
    refine z_get (pc := 10) (ci := 4) C (.ref (h 5 8)) bi_X4 rfl 0 7 (by decide) rfl bf_X4_41 rfl rfl dX4_drop_10 ?_
    refine z_iload_n (pc := 13) (i := 1) C 1 dX4_drop_13 rfl rfl ?_
    obtain ⟨hv3, hf⟩ := bb_g_some hf
    refine z_aald (pc := 14) (b := h (7 + x1.toNatClampNeg) 0) C 1 4 rfl rfl rfl hv3 (if_pos (bb_inN hv3)) dX4_drop_14 ?_
    refine z_astore_n (pc := 15) (i := 2) (lv' := [(2, .ref (h (7 + x1.toNatClampNeg) 0)), (0, .ref (h 5 0)), (1, .int x1)]) C dX4_drop_15 rfl (by decide) rfl ?_
    refine z_aload_n (pc := 16) (i := 2) C 0 dX4_drop_16 rfl rfl ?_
    obtain ⟨hv5, hf⟩ := bb_g_some hf
    obtain ⟨q4, hq4, hf⟩ := bb_b_some hf
    refine z_callVi (pc := 17) (ci := 2) (q0 := 0) (As := []) (rest := []) C (hR.le (by decide)) (c_X2_isMissing (h (7 + x1.toNatClampNeg)) hq4) (bb_rowcutp _ _ _ (bb_inN hv5)) bv_X2_isMissing bm_X4_212 rfl rfl rfl rfl (Nat.le_of_ble_eq_true rfl) dX4_drop_17 ?_
    refine z_if_eq (pc := 20) C 26 dX4_drop_20 (by decide) (fun hc6 => ?_) (fun hc6 => ?_)
    · have hf := bb_t hf hc6
      refine z_aload_n (pc := 26) (i := 2) C 0 dX4_drop_26 rfl rfl ?_
      obtain ⟨hv7, hf⟩ := bb_g_some hf
      refine z_get (pc := 27) (ci := 2) C (.int (((s0 (7 + x1.toNatClampNeg))).1 1)) bi_X2 rfl (42 + 2 * x1.toNatClampNeg) 1 (by decide) rfl bf_X4_216 (bb_rowpos _ _ _ (bb_inN hv7)) rfl dX4_drop_27 ?_
      refine z_istore_n (pc := 30) (i := 3) (lv' := [(3, .int (((s0 (7 + x1.toNatClampNeg))).1 1)), (2, .ref (h (7 + x1.toNatClampNeg) 0)), (0, .ref (h 5 0)), (1, .int x1)]) C dX4_drop_30 rfl (by decide) rfl ?_
      refine z_aload_n (pc := 31) (i := 2) C 1 dX4_drop_31 rfl rfl ?_
      obtain ⟨hv9, hf⟩ := bb_g_some hf
      obtain ⟨q8, hq8, hf⟩ := bb_b_some hf
      refine z_callVv (pc := 32) (ci := 2) (q0 := 0) (As := []) (rest := []) (ws' := wX4 X.cs h (va_up s0 (7 + x1.toNatClampNeg) q8)) C (hR.le (by decide)) (c_X2_lose (h (7 + x1.toNatClampNeg)) hq8) (bb_rowcut _ _ _ (bb_inN hv9) _) bv_X2_lose bm_X4_217 rfl rfl rfl rfl (Nat.le_of_ble_eq_true rfl) dX4_drop_32 ?_
      refine z_iload_n (pc := 35) (i := 3) C 0 dX4_drop_35 rfl rfl ?_
      obtain rfl := Option.some.inj hf
      exact z_iret (pc := 36) C hr R dX4_drop_36
    · have hf := bb_e hf hc6
      refine z_bipush (pc := 23) C (-11 : Int32) dX4_drop_23 (by decide) ?_
      obtain rfl := Option.some.inj hf
      exact z_iret (pc := 25) C hr R dX4_drop_25
  · have hf := bb_e hf hc2
    refine z_iconst (pc := 7) C (-1 : Int32) dX4_drop_7 (by decide) ?_
    obtain rfl := Option.some.inj hf
    exact z_iret (pc := 8) C hr R dX4_drop_8
theorem c_X4_drop {l : Launch} {D : va_G} {cs : Nat → ClassId} (h : Nat → Nat → Nat) {s0 : bb_H} {x1 : Int32} {z : (Int32 × bb_H)} (hf : F_X4_drop_0 s0 x1 = some z) : bb_M l yX4_drop cX4_drop 4 (some .int) 3 D cs [.ref (h 5 0), .int x1] (some (.int z.1)) (wX4 cs h s0) (wX4 cs h z.2) := bb_mg (by decide) rfl (Nat.le_of_ble_eq_true rfl) rfl (fun X hl hD hcs C hR hr R => by
  subst hl
  subst hD
  subst hcs
  exact B_X4_drop_0 C hR hr h R hf)
/-! X4_item: writes, level 3 -/
noncomputable def F_X4_item_16 (s0 : bb_H) : Option (Int32 × bb_H) := some ((-1 : Int32), s0)
set_option maxHeartbeats 4000000 in
set_option maxRecDepth 100000 in
theorem B_X4_item_16 {X : bb_X} (C : bb_C X RX4 cX4_item 7) (hR : bb_r X 3) (hr : X.meth.sig.returnType = (some .int)) (h : Nat → Nat → Nat) {z : (Int32 × bb_H)} (R : bb_R X (some (.int z.1)) (wX4 X.cs h z.2)) {s0 : bb_H} (hf : F_X4_item_16 s0 = some z) : bb_Z X 7 (wX4 X.cs h s0) 16 [] [] := by
  refine z_iconst (pc := 16) C (-1 : Int32) dX4_item_16 (by decide) ?_
  obtain rfl := Option.some.inj hf
  exact z_iret (pc := 17) C hr R dX4_item_17
noncomputable def F_X4_item_0 (s0 : bb_H) (x1 : Int32) (x2 : Int32) (x3 : Int32) (x4 : Int64) : Option (Int32 × bb_H) := (F_X4_isNoSheet_0 x1).bind (fun q1 => if q1 = 0 then ((F_X4_outside_0 x2 ((0 : Int32)) ((3 : Int32))).bind (fun q3 => if q3 = 0 then (bb_g (vp_in x1 4) (bb_g (vp_in x1 4) ((F_X2_faultOf_0 (s0 (7 + x1.toNatClampNeg)) x2 x3 ((1 : Int32))).bind (fun q6 => if 0 ≤ q6 then (bb_g (vp_in x1 4) (bb_g (vp_in x1 4) ((F_X2_put_0 (s0 (7 + x1.toNatClampNeg)) x3 x4).bind (fun q10 => some ((1 : Int32), va_up s0 (7 + x1.toNatClampNeg) q10))))) else (some (q6, s0)))))) else (F_X4_item_16 s0))) else (F_X4_item_16 s0))
set_option maxHeartbeats 4000000 in
set_option maxRecDepth 100000 in
theorem B_X4_item_0 {X : bb_X} (C : bb_C X RX4 cX4_item 7) (hR : bb_r X 3) (hr : X.meth.sig.returnType = (some .int)) (h : Nat → Nat → Nat) {z : (Int32 × bb_H)} (R : bb_R X (some (.int z.1)) (wX4 X.cs h z.2)) {s0 : bb_H} {x1 : Int32} {x2 : Int32} {x3 : Int32} {x4 : Int64} (hf : F_X4_item_0 s0 x1 x2 x3 x4 = some z) : bb_Z X 7 (wX4 X.cs h s0) 0 [(0, .ref (h 5 0)), (1, .int x1), (2, .int x2), (3, .int x3), (4, .long x4)] [] := by
  refine z_iload_n (pc := 0) (i := 1) C 1 dX4_item_0 rfl rfl ?_
  obtain ⟨q1, hq1, hf⟩ := bb_b_some hf
  refine z_callSi (pc := 1) (As := [.int x1]) (rest := []) C (hR.le (by decide)) (c_X4_isNoSheet hq1) (bb_cut_none _) bv_X4_isNoSheet bm_X4_194 rfl rfl (Nat.le_of_ble_eq_true rfl) dX4_item_1 ?_
  refine z_if_ne (pc := 4) C 16 dX4_item_4 (by decide) (fun hc2 => ?_) (fun hc2 => ?_)
  · have hf := bb_e hf hc2
    refine z_lv [] rfl ?_
    exact B_X4_item_16 C hR hr h R  hf
  · have hf := bb_t hf hc2
    refine z_iload_n (pc := 7) (i := 2) C 2 dX4_item_7 rfl rfl ?_
    refine z_iconst (pc := 8) C (0 : Int32) dX4_item_8 (by decide) ?_
    refine z_iconst (pc := 9) C (3 : Int32) dX4_item_9 (by decide) ?_
    obtain ⟨q3, hq3, hf⟩ := bb_b_some hf
    refine z_callSi (pc := 10) (As := [.int x2, .int ((0 : Int32)), .int ((3 : Int32))]) (rest := []) C (hR.le (by decide)) (c_X4_outside hq3) (bb_cut_none _) bv_X4_outside bm_X4_46 rfl rfl (Nat.le_of_ble_eq_true rfl) dX4_item_10 ?_
    refine z_if_eq (pc := 13) C 18 dX4_item_13 (by decide) (fun hc4 => ?_) (fun hc4 => ?_)
    · have hf := bb_t hf hc4
      refine z_aload_n (pc := 18) (i := 0) C 0 dX4_item_18 rfl rfl ?_
      refine z_get (pc := 19) (ci := 4) C (.ref (h 5 8)) bi_X4 rfl 0 7 (by decide) rfl bf_X4_41 rfl rfl dX4_item_19 ?_
      refine z_iload_n (pc := 22) (i := 1) C 1 dX4_item_22 rfl rfl ?_
      obtain ⟨hv5, hf⟩ := bb_g_some hf
      refine z_aald (pc := 23) (b := h (7 + x1.toNatClampNeg) 0) C 1 4 rfl rfl rfl hv5 (if_pos (bb_inN hv5)) dX4_item_23 ?_
      refine z_iload_n (pc := 24) (i := 2) C 2 dX4_item_24 rfl rfl ?_
      refine z_iload_n (pc := 25) (i := 3) C 3 dX4_item_25 rfl rfl ?_
      refine z_iconst (pc := 26) C (1 : Int32) dX4_item_26 (by decide) ?_
      obtain ⟨hv7, hf⟩ := bb_g_some hf
      obtain ⟨q6, hq6, hf⟩ := bb_b_some hf
      refine z_callVi (pc := 27) (ci := 2) (q0 := 0) (As := [.int x2, .int x3, .int ((1 : Int32))]) (rest := []) C (hR.le (by decide)) (c_X2_faultOf (h (7 + x1.toNatClampNeg)) hq6) (bb_rowcutp _ _ _ (bb_inN hv7)) bv_X2_faultOf bm_X4_197 rfl rfl rfl rfl (Nat.le_of_ble_eq_true rfl) dX4_item_27 ?_
      refine z_istore (pc := 30) (lv' := [(6, .int q6), (0, .ref (h 5 0)), (1, .int x1), (2, .int x2), (3, .int x3), (4, .long x4)]) C dX4_item_30 (by decide) rfl ?_
      refine z_iload (pc := 32) C 0 dX4_item_32 rfl ?_
      refine z_if_ge (pc := 34) C 40 dX4_item_34 (by decide) (fun hc8 => ?_) (fun hc8 => ?_)
      · have hf := bb_t hf hc8
        refine z_aload_n (pc := 40) (i := 0) C 1 dX4_item_40 rfl rfl ?_
        refine z_get (pc := 41) (ci := 4) C (.ref (h 5 8)) bi_X4 rfl 0 7 (by decide) rfl bf_X4_41 rfl rfl dX4_item_41 ?_
        refine z_iload_n (pc := 44) (i := 1) C 2 dX4_item_44 rfl rfl ?_
        obtain ⟨hv9, hf⟩ := bb_g_some hf
        refine z_aald (pc := 45) (b := h (7 + x1.toNatClampNeg) 0) C 1 4 rfl rfl rfl hv9 (if_pos (bb_inN hv9)) dX4_item_45 ?_
        refine z_iload_n (pc := 46) (i := 3) C 4 dX4_item_46 rfl rfl ?_
        refine z_lload (pc := 47) C 5 dX4_item_47 rfl ?_
        obtain ⟨hv11, hf⟩ := bb_g_some hf
        obtain ⟨q10, hq10, hf⟩ := bb_b_some hf
        refine z_callVv (pc := 49) (ci := 2) (q0 := 0) (As := [.int x3, .long x4]) (rest := []) (ws' := wX4 X.cs h (va_up s0 (7 + x1.toNatClampNeg) q10)) C (hR.le (by decide)) (c_X2_put (h (7 + x1.toNatClampNeg)) hq10) (bb_rowcut _ _ _ (bb_inN hv11) _) bv_X2_put bm_X4_205 rfl rfl rfl rfl (Nat.le_of_ble_eq_true rfl) dX4_item_49 ?_
        refine z_iconst (pc := 52) C (1 : Int32) dX4_item_52 (by decide) ?_
        obtain rfl := Option.some.inj hf
        exact z_iret (pc := 53) C hr R dX4_item_53
      · have hf := bb_e hf hc8
        refine z_iload (pc := 37) C 0 dX4_item_37 rfl ?_
        obtain rfl := Option.some.inj hf
        exact z_iret (pc := 39) C hr R dX4_item_39
    · have hf := bb_e hf hc4
      refine z_lv [] rfl ?_
      exact B_X4_item_16 C hR hr h R  hf
theorem c_X4_item {l : Launch} {D : va_G} {cs : Nat → ClassId} (h : Nat → Nat → Nat) {s0 : bb_H} {x1 : Int32} {x2 : Int32} {x3 : Int32} {x4 : Int64} {z : (Int32 × bb_H)} (hf : F_X4_item_0 s0 x1 x2 x3 x4 = some z) : bb_M l yX4_item cX4_item 7 (some .int) 3 D cs [.ref (h 5 0), .int x1, .int x2, .int x3, .long x4] (some (.int z.1)) (wX4 cs h s0) (wX4 cs h z.2) := bb_mg (by decide) rfl (Nat.le_of_ble_eq_true rfl) rfl (fun X hl hD hcs C hR hr R => by
  subst hl
  subst hD
  subst hcs
  exact B_X4_item_0 C hR hr h R hf)
/-! X4_copy: writes, level 3 -/
noncomputable def F_X4_copy_14 (s0 : bb_H) : Option (Int32 × bb_H) := some ((-1 : Int32), s0)
set_option maxHeartbeats 4000000 in
set_option maxRecDepth 100000 in
theorem B_X4_copy_14 {X : bb_X} (C : bb_C X RX4 cX4_copy 8) (hR : bb_r X 3) (hr : X.meth.sig.returnType = (some .int)) (h : Nat → Nat → Nat) {z : (Int32 × bb_H)} (R : bb_R X (some (.int z.1)) (wX4 X.cs h z.2)) {s0 : bb_H} (hf : F_X4_copy_14 s0 = some z) : bb_Z X 8 (wX4 X.cs h s0) 14 [] [] := by
  refine z_iconst (pc := 14) C (-1 : Int32) dX4_copy_14 (by decide) ?_
  obtain rfl := Option.some.inj hf
  exact z_iret (pc := 15) C hr R dX4_copy_15
noncomputable def F_X4_copy_48 (s0 : bb_H) : Option (Int32 × bb_H) := some ((-11 : Int32), s0)
set_option maxHeartbeats 4000000 in
set_option maxRecDepth 100000 in
theorem B_X4_copy_48 {X : bb_X} (C : bb_C X RX4 cX4_copy 8) (hR : bb_r X 3) (hr : X.meth.sig.returnType = (some .int)) (h : Nat → Nat → Nat) {z : (Int32 × bb_H)} (R : bb_R X (some (.int z.1)) (wX4 X.cs h z.2)) {s0 : bb_H} (hf : F_X4_copy_48 s0 = some z) : bb_Z X 8 (wX4 X.cs h s0) 48 [] [] := by
  refine z_bipush (pc := 48) C (-11 : Int32) dX4_copy_48 (by decide) ?_
  obtain rfl := Option.some.inj hf
  exact z_iret (pc := 50) C hr R dX4_copy_50
noncomputable def F_X4_copy_90 (s0 : bb_H) : Option (Int32 × bb_H) := some ((-13 : Int32), s0)
set_option maxHeartbeats 4000000 in
set_option maxRecDepth 100000 in
theorem B_X4_copy_90 {X : bb_X} (C : bb_C X RX4 cX4_copy 8) (hR : bb_r X 3) (hr : X.meth.sig.returnType = (some .int)) (h : Nat → Nat → Nat) {z : (Int32 × bb_H)} (R : bb_R X (some (.int z.1)) (wX4 X.cs h z.2)) {s0 : bb_H} (hf : F_X4_copy_90 s0 = some z) : bb_Z X 8 (wX4 X.cs h s0) 90 [] [] := by
  refine z_bipush (pc := 90) C (-13 : Int32) dX4_copy_90 (by decide) ?_
  obtain rfl := Option.some.inj hf
  exact z_iret (pc := 92) C hr R dX4_copy_92
noncomputable def F_X4_copy_111 (s0 : bb_H) (x5 : Int32) : Option (Int32 × bb_H) := some (x5, s0)
set_option maxHeartbeats 4000000 in
set_option maxRecDepth 100000 in
theorem B_X4_copy_111 {X : bb_X} (C : bb_C X RX4 cX4_copy 8) (hR : bb_r X 3) (hr : X.meth.sig.returnType = (some .int)) (h : Nat → Nat → Nat) {z : (Int32 × bb_H)} (R : bb_R X (some (.int z.1)) (wX4 X.cs h z.2)) {s0 : bb_H} {x5 : Int32} (hf : F_X4_copy_111 s0 x5 = some z) : bb_Z X 8 (wX4 X.cs h s0) 111 [(5, .int x5)] [] := by
  refine z_iload (pc := 111) C 0 dX4_copy_111 rfl ?_
  obtain rfl := Option.some.inj hf
  exact z_iret (pc := 113) C hr R dX4_copy_113
noncomputable def F_X4_copy_0 (s0 : bb_H) (x1 : Int32) (x2 : Int32) (x3 : Int32) (x4 : Int32) (x5 : Int32) : Option (Int32 × bb_H) := (F_X4_isNoSheet_0 x1).bind (fun q1 => if q1 = 0 then ((F_X4_isNoSheet_0 x3).bind (fun q3 => if q3 = 0 then (bb_g (vp_in x1 4) (bb_g (vp_in x3 4) (bb_g (vp_in x1 4) ((F_X2_isMissing_0 (s0 (7 + x1.toNatClampNeg))).bind (fun q7 => if q7 = 0 then (bb_g (vp_in x3 4) ((F_X2_isMissing_0 (s0 (7 + x3.toNatClampNeg))).bind (fun q10 => if q10 = 0 then (bb_g (vp_in x1 4) (bb_g (vp_in x3 4) (if (((s0 (7 + x1.toNatClampNeg))).1 0) = (((s0 (7 + x3.toNatClampNeg))).1 0) then (bb_g (vp_in x1 4) ((F_X2_reaches_0 (s0 (7 + x1.toNatClampNeg)) x2 x5).bind (fun q16 => if q16 = 0 then (F_X4_copy_90 s0) else (bb_g (vp_in x3 4) ((F_X2_reaches_0 (s0 (7 + x3.toNatClampNeg)) x4 x5).bind (fun q19 => if q19 = 0 then (F_X4_copy_90 s0) else (bb_g (vp_in x1 4) (bb_g (vp_in x3 4) (bb_g (vp_in x1 4) (bb_g (vp_in x3 4) (bb_g (¬ x2 < 0) (bb_g (¬ x4 < 0) (bb_g (¬ x5 < 0) (bb_g (x2.toNatClampNeg + x5.toNatClampNeg ≤ 24) (bb_g (x4.toNatClampNeg + x5.toNatClampNeg ≤ 24) (F_X4_copy_111 (va_up s0 (7 + x3.toNatClampNeg) (bb_sB (s0 (7 + x3.toNatClampNeg)) 2 (va_cpy ((s0 (7 + x1.toNatClampNeg)).2.2 2) ((s0 (7 + x3.toNatClampNeg)).2.2 2) x2.toNatClampNeg x4.toNatClampNeg x5.toNatClampNeg))) x5)))))))))))))))) else (some ((-12 : Int32), s0))))) else (F_X4_copy_48 s0)))) else (F_X4_copy_48 s0)))))) else (F_X4_copy_14 s0))) else (F_X4_copy_14 s0))
set_option maxHeartbeats 4000000 in
set_option maxRecDepth 100000 in
theorem B_X4_copy_0 {X : bb_X} (C : bb_C X RX4 cX4_copy 8) (hR : bb_r X 3) (hr : X.meth.sig.returnType = (some .int)) (h : Nat → Nat → Nat) {z : (Int32 × bb_H)} (R : bb_R X (some (.int z.1)) (wX4 X.cs h z.2)) {s0 : bb_H} {x1 : Int32} {x2 : Int32} {x3 : Int32} {x4 : Int32} {x5 : Int32} (hf : F_X4_copy_0 s0 x1 x2 x3 x4 x5 = some z) : bb_Z X 8 (wX4 X.cs h s0) 0 [(0, .ref (h 5 0)), (1, .int x1), (2, .int x2), (3, .int x3), (4, .int x4), (5, .int x5)] [] := by
  refine z_iload_n (pc := 0) (i := 1) C 1 dX4_copy_0 rfl rfl ?_
  obtain ⟨q1, hq1, hf⟩ := bb_b_some hf
  refine z_callSi (pc := 1) (As := [.int x1]) (rest := []) C (hR.le (by decide)) (c_X4_isNoSheet hq1) (bb_cut_none _) bv_X4_isNoSheet bm_X4_194 rfl rfl (Nat.le_of_ble_eq_true rfl) dX4_copy_1 ?_
  refine z_if_ne (pc := 4) C 14 dX4_copy_4 (by decide) (fun hc2 => ?_) (fun hc2 => ?_)
  · have hf := bb_e hf hc2
    refine z_lv [] rfl ?_
    exact B_X4_copy_14 C hR hr h R  hf
  · have hf := bb_t hf hc2
    refine z_iload_n (pc := 7) (i := 3) C 3 dX4_copy_7 rfl rfl ?_
    obtain ⟨q3, hq3, hf⟩ := bb_b_some hf
    refine z_callSi (pc := 8) (As := [.int x3]) (rest := []) C (hR.le (by decide)) (c_X4_isNoSheet hq3) (bb_cut_none _) bv_X4_isNoSheet bm_X4_194 rfl rfl (Nat.le_of_ble_eq_true rfl) dX4_copy_8 ?_
    refine z_if_eq (pc := 11) C 16 dX4_copy_11 (by decide) (fun hc4 => ?_) (fun hc4 => ?_)
    · have hf := bb_t hf hc4
      refine z_aload_n (pc := 16) (i := 0) C 0 dX4_copy_16 rfl rfl ?_
      refine z_get (pc := 17) (ci := 4) C (.ref (h 5 8)) bi_X4 rfl 0 7 (by decide) rfl bf_X4_41 rfl rfl dX4_copy_17 ?_
      refine z_iload_n (pc := 20) (i := 1) C 1 dX4_copy_20 rfl rfl ?_
      obtain ⟨hv5, hf⟩ := bb_g_some hf
      refine z_aald (pc := 21) (b := h (7 + x1.toNatClampNeg) 0) C 1 4 rfl rfl rfl hv5 (if_pos (bb_inN hv5)) dX4_copy_21 ?_
      refine z_astore (pc := 22) (lv' := [(6, .ref (h (7 + x1.toNatClampNeg) 0)), (0, .ref (h 5 0)), (1, .int x1), (2, .int x2), (3, .int x3), (4, .int x4), (5, .int x5)]) C dX4_copy_22 (by decide) rfl ?_
      refine z_aload_n (pc := 24) (i := 0) C 1 dX4_copy_24 rfl rfl ?_
      refine z_get (pc := 25) (ci := 4) C (.ref (h 5 8)) bi_X4 rfl 0 7 (by decide) rfl bf_X4_41 rfl rfl dX4_copy_25 ?_
      refine z_iload_n (pc := 28) (i := 3) C 4 dX4_copy_28 rfl rfl ?_
      obtain ⟨hv6, hf⟩ := bb_g_some hf
      refine z_aald (pc := 29) (b := h (7 + x3.toNatClampNeg) 0) C 1 4 rfl rfl rfl hv6 (if_pos (bb_inN hv6)) dX4_copy_29 ?_
      refine z_astore (pc := 30) (lv' := [(7, .ref (h (7 + x3.toNatClampNeg) 0)), (6, .ref (h (7 + x1.toNatClampNeg) 0)), (0, .ref (h 5 0)), (1, .int x1), (2, .int x2), (3, .int x3), (4, .int x4), (5, .int x5)]) C dX4_copy_30 (by decide) rfl ?_
      refine z_aload (pc := 32) C 1 dX4_copy_32 rfl ?_
      obtain ⟨hv8, hf⟩ := bb_g_some hf
      obtain ⟨q7, hq7, hf⟩ := bb_b_some hf
      refine z_callVi (pc := 34) (ci := 2) (q0 := 0) (As := []) (rest := []) C (hR.le (by decide)) (c_X2_isMissing (h (7 + x1.toNatClampNeg)) hq7) (bb_rowcutp _ _ _ (bb_inN hv8)) bv_X2_isMissing bm_X4_212 rfl rfl rfl rfl (Nat.le_of_ble_eq_true rfl) dX4_copy_34 ?_
      refine z_if_ne (pc := 37) C 48 dX4_copy_37 (by decide) (fun hc9 => ?_) (fun hc9 => ?_)
      · have hf := bb_e hf hc9
        refine z_lv [] rfl ?_
        exact B_X4_copy_48 C hR hr h R  hf
      · have hf := bb_t hf hc9
        refine z_aload (pc := 40) C 0 dX4_copy_40 rfl ?_
        obtain ⟨hv11, hf⟩ := bb_g_some hf
        obtain ⟨q10, hq10, hf⟩ := bb_b_some hf
        refine z_callVi (pc := 42) (ci := 2) (q0 := 0) (As := []) (rest := []) C (hR.le (by decide)) (c_X2_isMissing (h (7 + x3.toNatClampNeg)) hq10) (bb_rowcutp _ _ _ (bb_inN hv11)) bv_X2_isMissing bm_X4_212 rfl rfl rfl rfl (Nat.le_of_ble_eq_true rfl) dX4_copy_42 ?_
        refine z_if_eq (pc := 45) C 51 dX4_copy_45 (by decide) (fun hc12 => ?_) (fun hc12 => ?_)
        · have hf := bb_t hf hc12
          refine z_aload (pc := 51) C 1 dX4_copy_51 rfl ?_
          obtain ⟨hv13, hf⟩ := bb_g_some hf
          refine z_get (pc := 53) (ci := 2) C (.int (((s0 (7 + x1.toNatClampNeg))).1 0)) bi_X2 rfl (42 + 2 * x1.toNatClampNeg) 0 (by decide) rfl bf_X4_220 (bb_rowpos _ _ _ (bb_inN hv13)) rfl dX4_copy_53 ?_
          refine z_aload (pc := 56) C 0 dX4_copy_56 rfl ?_
          obtain ⟨hv14, hf⟩ := bb_g_some hf
          refine z_get (pc := 58) (ci := 2) C (.int (((s0 (7 + x3.toNatClampNeg))).1 0)) bi_X2 rfl (42 + 2 * x3.toNatClampNeg) 0 (by decide) rfl bf_X4_220 (bb_rowpos _ _ _ (bb_inN hv14)) rfl dX4_copy_58 ?_
          refine z_icmp_eq (pc := 61) C 67 dX4_copy_61 (by decide) (fun hc15 => ?_) (fun hc15 => ?_)
          · have hf := bb_t hf hc15
            refine z_aload (pc := 67) C 1 dX4_copy_67 rfl ?_
            refine z_iload_n (pc := 69) (i := 2) C 4 dX4_copy_69 rfl rfl ?_
            refine z_iload (pc := 70) C 7 dX4_copy_70 rfl ?_
            obtain ⟨hv17, hf⟩ := bb_g_some hf
            obtain ⟨q16, hq16, hf⟩ := bb_b_some hf
            refine z_callVi (pc := 72) (ci := 2) (q0 := 0) (As := [.int x2, .int x5]) (rest := []) C (hR.le (by decide)) (c_X2_reaches (h (7 + x1.toNatClampNeg)) hq16) (bb_rowcutp _ _ _ (bb_inN hv17)) bv_X2_reaches bm_X4_223 rfl rfl rfl rfl (Nat.le_of_ble_eq_true rfl) dX4_copy_72 ?_
            refine z_if_eq (pc := 75) C 90 dX4_copy_75 (by decide) (fun hc18 => ?_) (fun hc18 => ?_)
            · have hf := bb_t hf hc18
              refine z_lv [] rfl ?_
              exact B_X4_copy_90 C hR hr h R  hf
            · have hf := bb_e hf hc18
              refine z_aload (pc := 78) C 0 dX4_copy_78 rfl ?_
              refine z_iload (pc := 80) C 6 dX4_copy_80 rfl ?_
              refine z_iload (pc := 82) C 7 dX4_copy_82 rfl ?_
              obtain ⟨hv20, hf⟩ := bb_g_some hf
              obtain ⟨q19, hq19, hf⟩ := bb_b_some hf
              refine z_callVi (pc := 84) (ci := 2) (q0 := 0) (As := [.int x4, .int x5]) (rest := []) C (hR.le (by decide)) (c_X2_reaches (h (7 + x3.toNatClampNeg)) hq19) (bb_rowcutp _ _ _ (bb_inN hv20)) bv_X2_reaches bm_X4_223 rfl rfl rfl rfl (Nat.le_of_ble_eq_true rfl) dX4_copy_84 ?_
              refine z_if_ne (pc := 87) C 93 dX4_copy_87 (by decide) (fun hc21 => ?_) (fun hc21 => ?_)
              · have hf := bb_e hf hc21
                refine z_aload (pc := 93) C 1 dX4_copy_93 rfl ?_
                obtain ⟨hv22, hf⟩ := bb_g_some hf
                refine z_get (pc := 95) (ci := 2) C (.ref (h (7 + x1.toNatClampNeg) 3)) bi_X2 rfl (42 + 2 * x1.toNatClampNeg) 2 (by decide) rfl bf_X4_226 (bb_rowpos _ _ _ (bb_inN hv22)) rfl dX4_copy_95 ?_
                refine z_iload_n (pc := 98) (i := 2) C 4 dX4_copy_98 rfl rfl ?_
                refine z_aload (pc := 99) C 0 dX4_copy_99 rfl ?_
                obtain ⟨hv23, hf⟩ := bb_g_some hf
                refine z_get (pc := 101) (ci := 2) C (.ref (h (7 + x3.toNatClampNeg) 3)) bi_X2 rfl (42 + 2 * x3.toNatClampNeg) 2 (by decide) rfl bf_X4_226 (bb_rowpos _ _ _ (bb_inN hv23)) rfl dX4_copy_101 ?_
                refine z_iload (pc := 104) C 6 dX4_copy_104 rfl ?_
                refine z_iload (pc := 106) C 7 dX4_copy_106 rfl ?_
                obtain ⟨hv24, hf⟩ := bb_g_some hf
                obtain ⟨hv25, hf⟩ := bb_g_some hf
                obtain ⟨hn26, hf⟩ := bb_g_some hf
                obtain ⟨hn27, hf⟩ := bb_g_some hf
                obtain ⟨hn28, hf⟩ := bb_g_some hf
                obtain ⟨hn29, hf⟩ := bb_g_some hf
                obtain ⟨hn30, hf⟩ := bb_g_some hf
                refine z_copyl (pc := 108) (ws' := wX4 X.cs h (va_up s0 (7 + x3.toNatClampNeg) (bb_sB (s0 (7 + x3.toNatClampNeg)) 2 (va_cpy ((s0 (7 + x1.toNatClampNeg)).2.2 2) ((s0 (7 + x3.toNatClampNeg)).2.2 2) x2.toNatClampNeg x4.toNatClampNeg x5.toNatClampNeg)))) C (hR.le (by decide)) bm_X4_230 bl_ac_n bl_ac_s bl_System (43 + 2 * x1.toNatClampNeg) (43 + 2 * x3.toNatClampNeg) 1 1 (x2.toNatClampNeg) (x4.toNatClampNeg) (x5.toNatClampNeg) (bb_rowarr _ _ _ (bb_inN hv24)) (bb_rowarr _ _ _ (bb_inN hv25)) rfl rfl rfl hn26 hn27 hn28 rfl rfl rfl hn29 hn30 (Nat.le_of_ble_eq_true rfl) (bb_rowset _ _ _ (bb_inN hv25) _) dX4_copy_108 ?_
                refine z_lv [7] rfl ?_
                exact B_X4_copy_111 C hR hr h R  hf
              · have hf := bb_t hf hc21
                refine z_lv [] rfl ?_
                exact B_X4_copy_90 C hR hr h R  hf
          · have hf := bb_e hf hc15
            refine z_bipush (pc := 64) C (-12 : Int32) dX4_copy_64 (by decide) ?_
            obtain rfl := Option.some.inj hf
            exact z_iret (pc := 66) C hr R dX4_copy_66
        · have hf := bb_e hf hc12
          refine z_lv [] rfl ?_
          exact B_X4_copy_48 C hR hr h R  hf
    · have hf := bb_e hf hc4
      refine z_lv [] rfl ?_
      exact B_X4_copy_14 C hR hr h R  hf
theorem c_X4_copy {l : Launch} {D : va_G} {cs : Nat → ClassId} (h : Nat → Nat → Nat) {s0 : bb_H} {x1 : Int32} {x2 : Int32} {x3 : Int32} {x4 : Int32} {x5 : Int32} {z : (Int32 × bb_H)} (hf : F_X4_copy_0 s0 x1 x2 x3 x4 x5 = some z) : bb_M l yX4_copy cX4_copy 8 (some .int) 3 D cs [.ref (h 5 0), .int x1, .int x2, .int x3, .int x4, .int x5] (some (.int z.1)) (wX4 cs h s0) (wX4 cs h z.2) := bb_mg (by decide) rfl (Nat.le_of_ble_eq_true rfl) rfl (fun X hl hD hcs C hR hr R => by
  subst hl
  subst hD
  subst hcs
  exact B_X4_copy_0 C hR hr h R hf)
