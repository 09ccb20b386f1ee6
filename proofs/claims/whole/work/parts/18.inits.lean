set_option maxRecDepth 100000 in
theorem bw_oi : Cond.instanceMethod objectInit ∈ bb_tb := bb_in 46 (by decide +kernel) (by decide +kernel)
set_option maxRecDepth 100000 in
theorem bw_oc : Cond.code objectInit ⟨#[0xb1]⟩ 1 none ∈ bb_tb := bb_in 47 (by decide +kernel) (by decide +kernel)
set_option maxRecDepth 100000 in
theorem bw_ac_int : Cond.arrayClass .int ∈ bb_tb := bb_in 122 (by decide +kernel) (by decide +kernel)
set_option maxRecDepth 100000 in
theorem bw_ac_char : Cond.arrayClass .char ∈ bb_tb := bb_in 160 (by decide +kernel) (by decide +kernel)
set_option maxRecDepth 100000 in
theorem bw_ac_long : Cond.arrayClass .long ∈ bb_tb := bb_in 181 (by decide +kernel) (by decide +kernel)
set_option maxRecDepth 100000 in
theorem bw_cl_L_7 : Cond.classLink RL 7 "BlindBuff" ∈ bb_tb := bb_in 40 (by decide +kernel) (by decide +kernel)
set_option maxRecDepth 100000 in
theorem bw_in_X4 : Cond.instantiable RX4 8 ∈ bb_tb := bb_in 41 (by decide +kernel) (by decide +kernel)
set_option maxRecDepth 100000 in
theorem bw_cl_X4_7 : Cond.classLink RX4 7 "BlindBuff$City" ∈ bb_tb := bb_in 48 (by decide +kernel) (by decide +kernel)
set_option maxRecDepth 100000 in
theorem bw_in_X0 : Cond.instantiable RX0 14 ∈ bb_tb := bb_in 49 (by decide +kernel) (by decide +kernel)
set_option maxRecDepth 100000 in
theorem bw_cl_X4_16 : Cond.classLink RX4 16 "BlindBuff$Past" ∈ bb_tb := bb_in 123 (by decide +kernel) (by decide +kernel)
set_option maxRecDepth 100000 in
theorem bw_in_X1 : Cond.instantiable RX1 3 ∈ bb_tb := bb_in 124 (by decide +kernel) (by decide +kernel)
set_option maxRecDepth 100000 in
theorem bw_cl_X1_11 : Cond.classLink RX1 11 "[[I" ∈ bb_tb := bb_in 129 (by decide +kernel) (by decide +kernel)
set_option maxRecDepth 100000 in
theorem bw_cl_X4_32 : Cond.classLink RX4 32 "BlindBuff$Tape" ∈ bb_tb := bb_in 142 (by decide +kernel) (by decide +kernel)
set_option maxRecDepth 100000 in
theorem bw_in_X3 : Cond.instantiable RX3 3 ∈ bb_tb := bb_in 143 (by decide +kernel) (by decide +kernel)
set_option maxRecDepth 100000 in
theorem bw_cl_X4_39 : Cond.classLink RX4 39 "BlindBuff$Row" ∈ bb_tb := bb_in 161 (by decide +kernel) (by decide +kernel)
set_option maxRecDepth 100000 in
theorem bw_in_X2 : Cond.instantiable RX2 3 ∈ bb_tb := bb_in 163 (by decide +kernel) (by decide +kernel)
set_option maxRecDepth 100000 in
theorem bw_cl_L_10 : Cond.classLink RL 10 "BlindBuffModel" ∈ bb_tb := bb_in 621 (by decide +kernel) (by decide +kernel)
set_option maxRecDepth 100000 in
theorem bw_in_X5 : Cond.instantiable RX5 18 ∈ bb_tb := bb_in 622 (by decide +kernel) (by decide +kernel)
set_option maxRecDepth 100000 in
theorem bw_it_X0 : Cond.initialized RX0 ∈ bb_tb := bb_in 27 (by decide +kernel) (by decide +kernel)
set_option maxRecDepth 100000 in
theorem bw_ci_X0 : bb_ci yX0_init cX0_init 1 := ⟨bb_in 51 (by decide +kernel) (by decide +kernel), bb_in 27 (by decide +kernel) (by decide +kernel), bb_in 52 (by decide +kernel) (by decide +kernel), ⟨by decide +kernel, by decide +kernel, by decide +kernel⟩, rfl, by decide⟩
set_option maxRecDepth 100000 in
theorem bw_it_X1 : Cond.initialized RX1 ∈ bb_tb := bb_in 28 (by decide +kernel) (by decide +kernel)
set_option maxRecDepth 100000 in
theorem bw_ci_X1 : bb_ci yX1_init cX1_init 1 := ⟨bb_in 126 (by decide +kernel) (by decide +kernel), bb_in 28 (by decide +kernel) (by decide +kernel), bb_in 127 (by decide +kernel) (by decide +kernel), ⟨by decide +kernel, by decide +kernel, by decide +kernel⟩, rfl, by decide⟩
set_option maxRecDepth 100000 in
theorem bw_it_X2 : Cond.initialized RX2 ∈ bb_tb := bb_in 30 (by decide +kernel) (by decide +kernel)
set_option maxRecDepth 100000 in
theorem bw_ci_X2 : bb_ci yX2_init cX2_init 1 := ⟨bb_in 165 (by decide +kernel) (by decide +kernel), bb_in 30 (by decide +kernel) (by decide +kernel), bb_in 166 (by decide +kernel) (by decide +kernel), ⟨by decide +kernel, by decide +kernel, by decide +kernel⟩, rfl, by decide⟩
set_option maxRecDepth 100000 in
theorem bw_it_X3 : Cond.initialized RX3 ∈ bb_tb := bb_in 29 (by decide +kernel) (by decide +kernel)
set_option maxRecDepth 100000 in
theorem bw_ci_X3 : bb_ci yX3_init cX3_init 1 := ⟨bb_in 145 (by decide +kernel) (by decide +kernel), bb_in 29 (by decide +kernel) (by decide +kernel), bb_in 146 (by decide +kernel) (by decide +kernel), ⟨by decide +kernel, by decide +kernel, by decide +kernel⟩, rfl, by decide⟩
set_option maxRecDepth 100000 in
theorem bw_it_X4 : Cond.initialized RX4 ∈ bb_tb := bb_in 26 (by decide +kernel) (by decide +kernel)
set_option maxRecDepth 100000 in
theorem bw_ci_X4 : bb_ci yX4_init cX4_init 2 := ⟨bb_in 43 (by decide +kernel) (by decide +kernel), bb_in 26 (by decide +kernel) (by decide +kernel), bb_in 44 (by decide +kernel) (by decide +kernel), ⟨by decide +kernel, by decide +kernel, by decide +kernel⟩, rfl, by decide⟩
set_option maxRecDepth 100000 in
theorem bw_it_X5 : Cond.initialized RX5 ∈ bb_tb := bb_in 31 (by decide +kernel) (by decide +kernel)
set_option maxRecDepth 100000 in
theorem bw_ci_X5 : bb_ci yX5_init cX5_init 2 := ⟨bb_in 624 (by decide +kernel) (by decide +kernel), bb_in 31 (by decide +kernel) (by decide +kernel), bb_in 625 (by decide +kernel) (by decide +kernel), ⟨by decide +kernel, by decide +kernel, by decide +kernel⟩, rfl, by decide⟩
/-! the states at first -/
def bb_c0 : bb_O := (fun k => if k = 0 then 4 else if k = 1 then 5 else if k = 8 then 1 else 0, fun _ _ => 0, fun _ _ => 0)
def bb_o0 : bb_O := (fun _ => 0, fun _ _ => 0, fun _ _ => 0)
def bb_r0 : bb_O := (fun k => if k = 0 then -1 else 0, fun _ _ => 0, fun _ _ => 0)
def bb_h0 : bb_H := fun c => if c = 0 ∨ c = 2 ∨ c = 3 then bb_c0 else if 7 ≤ c then bb_r0 else bb_o0
set_option maxHeartbeats 4000000 in
set_option maxRecDepth 100000 in
theorem i_X0 {l : Launch} {D : va_G} {cs : Nat → ClassId} (a : Nat) : bb_MI l yX0_init cX0_init 1 1 5 30 D cs [.ref a] (fun w => ∃ h : Nat → Nat, h 0 = a ∧ w = wX0 cs h bb_c0) [(a, .inr (0, [.int 0, .int 0, .int 0, .int 0, .int 0, .int 0, .int 0, .int 0, .int 0, .null, .null, .null, .null, .null]))] := by
  refine bb_mgI (by decide) rfl rfl (Nat.le_of_ble_eq_true rfl) rfl (fun X hl hD hcs hXR C hR hr hnm hE R => ?_)
  subst hl
  subst hD
  subst hcs
  have C0 := C
  refine z_aload_n (pc := 0) (i := 0) C 0 dX0_init_0 rfl rfl ?_
  refine z_obj (pc := 1) C (hR.le (by decide)) bm_X0_3 bw_oi bw_oc (Nat.le_of_ble_eq_true rfl) dX0_init_1 ?_
  refine z_aload_n (pc := 4) (i := 0) C 0 dX0_init_4 rfl rfl ?_
  refine z_iconst (pc := 5) C (4 : Int32) dX0_init_5 (by decide) ?_
  refine z_put (pc := 6) (ci := 0) (ty := .int) (ws' := [(a, .inr (0, [.int (4), .int 0, .int 0, .int 0, .int 0, .int 0, .int 0, .int 0, .int 0, .null, .null, .null, .null, .null]))]) C bi_X0 tyX0_ok nmX0 rfl 0 0 (by decide) rfl bf_X0_9 rfl rfl rfl rfl rfl (Nat.le_of_ble_eq_true rfl) rfl dX0_init_6 ?_
  refine z_aload_n (pc := 9) (i := 0) C 0 dX0_init_9 rfl rfl ?_
  refine z_iconst (pc := 10) C (5 : Int32) dX0_init_10 (by decide) ?_
  refine z_put (pc := 11) (ci := 0) (ty := .int) (ws' := [(a, .inr (0, [.int (4), .int (5), .int 0, .int 0, .int 0, .int 0, .int 0, .int 0, .int 0, .null, .null, .null, .null, .null]))]) C bi_X0 tyX0_ok nmX0 rfl 0 1 (by decide) rfl bf_X0_15 rfl rfl rfl rfl rfl (Nat.le_of_ble_eq_true rfl) rfl dX0_init_11 ?_
  refine z_aload_n (pc := 14) (i := 0) C 0 dX0_init_14 rfl rfl ?_
  refine z_iconst (pc := 15) C (1 : Int32) dX0_init_15 (by decide) ?_
  refine z_put (pc := 16) (ci := 0) (ty := .int) (ws' := [(a, .inr (0, [.int (4), .int (5), .int 0, .int 0, .int 0, .int 0, .int 0, .int 0, .int (1), .null, .null, .null, .null, .null]))]) C bi_X0 tyX0_ok nmX0 rfl 0 8 (by decide) rfl bf_X0_18 rfl rfl rfl rfl rfl (Nat.le_of_ble_eq_true rfl) rfl dX0_init_16 ?_
  refine z_aload_n (pc := 19) (i := 0) C 0 dX0_init_19 rfl rfl ?_
  refine z_bipush (pc := 20) C (6 : Int32) dX0_init_20 (by decide) ?_
  refine z_newa (pc := 22) (ty := .int) (atype := .int) (a0 := (6, .inl (fun _ => 0))) C 0 rfl bw_ac_int rfl (fun _ h => h) (fun _ => rfl) (by decide) (by decide) (by decide) (show 0 + 1 ≤ X.R.cells by rw [hXR]; decide) (show 0 + 6 ≤ X.R.slots by rw [hXR]; decide) dX0_init_22 (fun q1 => ?_)
  have C1 : bb_C (X.kn 1 6) RX0 cX0_init 1 := C0.kn (show 1 ≤ X.R.cells by rw [hXR]; decide) (show 6 ≤ X.R.slots by rw [hXR]; decide)
  show bb_Z (X.kn 1 6) 1 ([(a, .inr (0, [.int (4), .int (5), .int 0, .int 0, .int 0, .int 0, .int 0, .int 0, .int (1), .null, .null, .null, .null, .null])), (q1, .inl (X.cs 0, 6, .inl (fun _ => 0)))]) 24 [(0, .ref a)] (.ref q1 :: [.ref a])
  refine z_putF (pc := 24) (ci := 0) (ty := .array .int) (ws' := [(a, .inr (0, [.int (4), .int (5), .int 0, .int 0, .int 0, .int 0, .int 0, .int 0, .int (1), .ref q1, .null, .null, .null, .null])), (q1, .inl (X.cs 0, 6, .inl (fun _ => 0)))]) C1 hnm bi_X0 tyX0_ok nmX0 rfl 0 9 (by decide) rfl bf_X0_21 rfl rfl rfl rfl rfl (Nat.le_of_ble_eq_true rfl) rfl dX0_init_24 ?_
  refine z_aload_n (pc := 27) (i := 0) C1 0 dX0_init_27 rfl rfl ?_
  refine z_bipush (pc := 28) C1 (6 : Int32) dX0_init_28 (by decide) ?_
  refine z_newa (pc := 30) (ty := .int) (atype := .int) (a0 := (6, .inl (fun _ => 0))) C1 0 rfl bw_ac_int rfl (fun _ h => h) (fun _ => rfl) (by decide) (by decide) (by decide) (show 1 + 1 ≤ X.R.cells by rw [hXR]; decide) (show 6 + 6 ≤ X.R.slots by rw [hXR]; decide) dX0_init_30 (fun q2 => ?_)
  have C2 : bb_C (X.kn 2 12) RX0 cX0_init 1 := C0.kn (show 2 ≤ X.R.cells by rw [hXR]; decide) (show 12 ≤ X.R.slots by rw [hXR]; decide)
  show bb_Z (X.kn 2 12) 1 ([(a, .inr (0, [.int (4), .int (5), .int 0, .int 0, .int 0, .int 0, .int 0, .int 0, .int (1), .ref q1, .null, .null, .null, .null])), (q1, .inl (X.cs 0, 6, .inl (fun _ => 0))), (q2, .inl (X.cs 0, 6, .inl (fun _ => 0)))]) 32 [(0, .ref a)] (.ref q2 :: [.ref a])
  refine z_putF (pc := 32) (ci := 0) (ty := .array .int) (ws' := [(a, .inr (0, [.int (4), .int (5), .int 0, .int 0, .int 0, .int 0, .int 0, .int 0, .int (1), .ref q1, .ref q2, .null, .null, .null])), (q1, .inl (X.cs 0, 6, .inl (fun _ => 0))), (q2, .inl (X.cs 0, 6, .inl (fun _ => 0)))]) C2 hnm bi_X0 tyX0_ok nmX0 rfl 0 10 (by decide) rfl bf_X0_25 rfl rfl rfl rfl rfl (Nat.le_of_ble_eq_true rfl) rfl dX0_init_32 ?_
  refine z_aload_n (pc := 35) (i := 0) C2 0 dX0_init_35 rfl rfl ?_
  refine z_bipush (pc := 36) C2 (6 : Int32) dX0_init_36 (by decide) ?_
  refine z_newa (pc := 38) (ty := .int) (atype := .int) (a0 := (6, .inl (fun _ => 0))) C2 0 rfl bw_ac_int rfl (fun _ h => h) (fun _ => rfl) (by decide) (by decide) (by decide) (show 2 + 1 ≤ X.R.cells by rw [hXR]; decide) (show 12 + 6 ≤ X.R.slots by rw [hXR]; decide) dX0_init_38 (fun q3 => ?_)
  have C3 : bb_C (X.kn 3 18) RX0 cX0_init 1 := C0.kn (show 3 ≤ X.R.cells by rw [hXR]; decide) (show 18 ≤ X.R.slots by rw [hXR]; decide)
  show bb_Z (X.kn 3 18) 1 ([(a, .inr (0, [.int (4), .int (5), .int 0, .int 0, .int 0, .int 0, .int 0, .int 0, .int (1), .ref q1, .ref q2, .null, .null, .null])), (q1, .inl (X.cs 0, 6, .inl (fun _ => 0))), (q2, .inl (X.cs 0, 6, .inl (fun _ => 0))), (q3, .inl (X.cs 0, 6, .inl (fun _ => 0)))]) 40 [(0, .ref a)] (.ref q3 :: [.ref a])
  refine z_putF (pc := 40) (ci := 0) (ty := .array .int) (ws' := [(a, .inr (0, [.int (4), .int (5), .int 0, .int 0, .int 0, .int 0, .int 0, .int 0, .int (1), .ref q1, .ref q2, .ref q3, .null, .null])), (q1, .inl (X.cs 0, 6, .inl (fun _ => 0))), (q2, .inl (X.cs 0, 6, .inl (fun _ => 0))), (q3, .inl (X.cs 0, 6, .inl (fun _ => 0)))]) C3 hnm bi_X0 tyX0_ok nmX0 rfl 0 11 (by decide) rfl bf_X0_28 rfl rfl rfl rfl rfl (Nat.le_of_ble_eq_true rfl) rfl dX0_init_40 ?_
  refine z_aload_n (pc := 43) (i := 0) C3 0 dX0_init_43 rfl rfl ?_
  refine z_bipush (pc := 44) C3 (6 : Int32) dX0_init_44 (by decide) ?_
  refine z_newa (pc := 46) (ty := .int) (atype := .int) (a0 := (6, .inl (fun _ => 0))) C3 0 rfl bw_ac_int rfl (fun _ h => h) (fun _ => rfl) (by decide) (by decide) (by decide) (show 3 + 1 ≤ X.R.cells by rw [hXR]; decide) (show 18 + 6 ≤ X.R.slots by rw [hXR]; decide) dX0_init_46 (fun q4 => ?_)
  have C4 : bb_C (X.kn 4 24) RX0 cX0_init 1 := C0.kn (show 4 ≤ X.R.cells by rw [hXR]; decide) (show 24 ≤ X.R.slots by rw [hXR]; decide)
  show bb_Z (X.kn 4 24) 1 ([(a, .inr (0, [.int (4), .int (5), .int 0, .int 0, .int 0, .int 0, .int 0, .int 0, .int (1), .ref q1, .ref q2, .ref q3, .null, .null])), (q1, .inl (X.cs 0, 6, .inl (fun _ => 0))), (q2, .inl (X.cs 0, 6, .inl (fun _ => 0))), (q3, .inl (X.cs 0, 6, .inl (fun _ => 0))), (q4, .inl (X.cs 0, 6, .inl (fun _ => 0)))]) 48 [(0, .ref a)] (.ref q4 :: [.ref a])
  refine z_putF (pc := 48) (ci := 0) (ty := .array .int) (ws' := [(a, .inr (0, [.int (4), .int (5), .int 0, .int 0, .int 0, .int 0, .int 0, .int 0, .int (1), .ref q1, .ref q2, .ref q3, .ref q4, .null])), (q1, .inl (X.cs 0, 6, .inl (fun _ => 0))), (q2, .inl (X.cs 0, 6, .inl (fun _ => 0))), (q3, .inl (X.cs 0, 6, .inl (fun _ => 0))), (q4, .inl (X.cs 0, 6, .inl (fun _ => 0)))]) C4 hnm bi_X0 tyX0_ok nmX0 rfl 0 12 (by decide) rfl bf_X0_31 rfl rfl rfl rfl rfl (Nat.le_of_ble_eq_true rfl) rfl dX0_init_48 ?_
  refine z_aload_n (pc := 51) (i := 0) C4 0 dX0_init_51 rfl rfl ?_
  refine z_bipush (pc := 52) C4 (6 : Int32) dX0_init_52 (by decide) ?_
  refine z_newa (pc := 54) (ty := .int) (atype := .int) (a0 := (6, .inl (fun _ => 0))) C4 0 rfl bw_ac_int rfl (fun _ h => h) (fun _ => rfl) (by decide) (by decide) (by decide) (show 4 + 1 ≤ X.R.cells by rw [hXR]; decide) (show 24 + 6 ≤ X.R.slots by rw [hXR]; decide) dX0_init_54 (fun q5 => ?_)
  have C5 : bb_C (X.kn 5 30) RX0 cX0_init 1 := C0.kn (show 5 ≤ X.R.cells by rw [hXR]; decide) (show 30 ≤ X.R.slots by rw [hXR]; decide)
  show bb_Z (X.kn 5 30) 1 ([(a, .inr (0, [.int (4), .int (5), .int 0, .int 0, .int 0, .int 0, .int 0, .int 0, .int (1), .ref q1, .ref q2, .ref q3, .ref q4, .null])), (q1, .inl (X.cs 0, 6, .inl (fun _ => 0))), (q2, .inl (X.cs 0, 6, .inl (fun _ => 0))), (q3, .inl (X.cs 0, 6, .inl (fun _ => 0))), (q4, .inl (X.cs 0, 6, .inl (fun _ => 0))), (q5, .inl (X.cs 0, 6, .inl (fun _ => 0)))]) 56 [(0, .ref a)] (.ref q5 :: [.ref a])
  refine z_putF (pc := 56) (ci := 0) (ty := .array .int) (ws' := [(a, .inr (0, [.int (4), .int (5), .int 0, .int 0, .int 0, .int 0, .int 0, .int 0, .int (1), .ref q1, .ref q2, .ref q3, .ref q4, .ref q5])), (q1, .inl (X.cs 0, 6, .inl (fun _ => 0))), (q2, .inl (X.cs 0, 6, .inl (fun _ => 0))), (q3, .inl (X.cs 0, 6, .inl (fun _ => 0))), (q4, .inl (X.cs 0, 6, .inl (fun _ => 0))), (q5, .inl (X.cs 0, 6, .inl (fun _ => 0)))]) C5 hnm bi_X0 tyX0_ok nmX0 rfl 0 13 (by decide) rfl bf_X0_34 rfl rfl rfl rfl rfl (Nat.le_of_ble_eq_true rfl) rfl dX0_init_56 ?_
  exact z_vretI (pc := 59) C5 hr R (Nat.le_of_ble_eq_true rfl) (Nat.le_of_ble_eq_true rfl) ⟨fun i => if i = 10 then q1 else if i = 11 then q2 else if i = 12 then q3 else if i = 13 then q4 else if i = 14 then q5 else a, rfl, rfl⟩ dX0_init_59
set_option maxHeartbeats 4000000 in
set_option maxRecDepth 100000 in
theorem i_X2 {l : Launch} {D : va_G} {cs : Nat → ClassId} (a : Nat) : bb_MI l yX2_init cX2_init 1 1 1 24 D cs [.ref a] (fun w => ∃ h : Nat → Nat, h 0 = a ∧ w = wX2 cs h bb_r0) [(a, .inr (2, [.int 0, .int 0, .null]))] := by
  refine bb_mgI (by decide) rfl rfl (Nat.le_of_ble_eq_true rfl) rfl (fun X hl hD hcs hXR C hR hr hnm hE R => ?_)
  subst hl
  subst hD
  subst hcs
  have C0 := C
  refine z_aload_n (pc := 0) (i := 0) C 0 dX2_init_0 rfl rfl ?_
  refine z_obj (pc := 1) C (hR.le (by decide)) bm_X2_3 bw_oi bw_oc (Nat.le_of_ble_eq_true rfl) dX2_init_1 ?_
  refine z_aload_n (pc := 4) (i := 0) C 0 dX2_init_4 rfl rfl ?_
  refine z_iconst (pc := 5) C (-1 : Int32) dX2_init_5 (by decide) ?_
  refine z_put (pc := 6) (ci := 2) (ty := .int) (ws' := [(a, .inr (2, [.int (-1), .int 0, .null]))]) C bi_X2 tyX2_ok nmX2 rfl 0 0 (by decide) rfl bf_X2_11 rfl rfl rfl rfl rfl (Nat.le_of_ble_eq_true rfl) rfl dX2_init_6 ?_
  refine z_aload_n (pc := 9) (i := 0) C 0 dX2_init_9 rfl rfl ?_
  refine z_bipush (pc := 10) C (24 : Int32) dX2_init_10 (by decide) ?_
  refine z_newa (pc := 12) (ty := .long) (atype := .long) (a0 := (24, .inr (.inl (fun _ => 0)))) C 1 rfl bw_ac_long rfl (fun _ h => h) (fun _ => rfl) (by decide) (by decide) (by decide) (show 0 + 1 ≤ X.R.cells by rw [hXR]; decide) (show 0 + 24 ≤ X.R.slots by rw [hXR]; decide) dX2_init_12 (fun q1 => ?_)
  have C1 : bb_C (X.kn 1 24) RX2 cX2_init 1 := C0.kn (show 1 ≤ X.R.cells by rw [hXR]; decide) (show 24 ≤ X.R.slots by rw [hXR]; decide)
  show bb_Z (X.kn 1 24) 1 ([(a, .inr (2, [.int (-1), .int 0, .null])), (q1, .inl (X.cs 1, 24, .inr (.inl (fun _ => 0))))]) 14 [(0, .ref a)] (.ref q1 :: [.ref a])
  refine z_putF (pc := 14) (ci := 2) (ty := .array .long) (ws' := [(a, .inr (2, [.int (-1), .int 0, .ref q1])), (q1, .inl (X.cs 1, 24, .inr (.inl (fun _ => 0))))]) C1 hnm bi_X2 tyX2_ok nmX2 rfl 0 2 (by decide) rfl bf_X2_15 rfl rfl rfl rfl rfl (Nat.le_of_ble_eq_true rfl) rfl dX2_init_14 ?_
  exact z_vretI (pc := 17) C1 hr R (Nat.le_of_ble_eq_true rfl) (Nat.le_of_ble_eq_true rfl) ⟨fun i => if i = 3 then q1 else a, rfl, rfl⟩ dX2_init_17
set_option maxHeartbeats 4000000 in
set_option maxRecDepth 100000 in
theorem i_X3 {l : Launch} {D : va_G} {cs : Nat → ClassId} (a : Nat) : bb_MI l yX3_init cX3_init 1 1 1 90 D cs [.ref a] (fun w => ∃ h : Nat → Nat, h 0 = a ∧ w = wX3 cs h bb_o0) [(a, .inr (3, [.null, .int 0, .int 0]))] := by
  refine bb_mgI (by decide) rfl rfl (Nat.le_of_ble_eq_true rfl) rfl (fun X hl hD hcs hXR C hR hr hnm hE R => ?_)
  subst hl
  subst hD
  subst hcs
  have C0 := C
  refine z_aload_n (pc := 0) (i := 0) C 0 dX3_init_0 rfl rfl ?_
  refine z_obj (pc := 1) C (hR.le (by decide)) bm_X3_3 bw_oi bw_oc (Nat.le_of_ble_eq_true rfl) dX3_init_1 ?_
  refine z_aload_n (pc := 4) (i := 0) C 0 dX3_init_4 rfl rfl ?_
  refine z_bipush (pc := 5) C (90 : Int32) dX3_init_5 (by decide) ?_
  refine z_newa (pc := 7) (ty := .char) (atype := .char) (a0 := (90, .inl (fun _ => 0))) C 2 rfl bw_ac_char rfl (fun _ h => h) (fun _ => rfl) (by decide) (by decide) (by decide) (show 0 + 1 ≤ X.R.cells by rw [hXR]; decide) (show 0 + 90 ≤ X.R.slots by rw [hXR]; decide) dX3_init_7 (fun q1 => ?_)
  have C1 : bb_C (X.kn 1 90) RX3 cX3_init 1 := C0.kn (show 1 ≤ X.R.cells by rw [hXR]; decide) (show 90 ≤ X.R.slots by rw [hXR]; decide)
  show bb_Z (X.kn 1 90) 1 ([(a, .inr (3, [.null, .int 0, .int 0])), (q1, .inl (X.cs 2, 90, .inl (fun _ => 0)))]) 9 [(0, .ref a)] (.ref q1 :: [.ref a])
  refine z_putF (pc := 9) (ci := 3) (ty := .array .char) (ws' := [(a, .inr (3, [.ref q1, .int 0, .int 0])), (q1, .inl (X.cs 2, 90, .inl (fun _ => 0)))]) C1 hnm bi_X3 tyX3_ok nmX3 rfl 0 0 (by decide) rfl bf_X3_9 rfl rfl rfl rfl rfl (Nat.le_of_ble_eq_true rfl) rfl dX3_init_9 ?_
  exact z_vretI (pc := 12) C1 hr R (Nat.le_of_ble_eq_true rfl) (Nat.le_of_ble_eq_true rfl) ⟨fun i => if i = 1 then q1 else a, rfl, rfl⟩ dX3_init_12
set_option maxHeartbeats 4000000 in
set_option maxRecDepth 100000 in
theorem i_X1 {l : Launch} {D : va_G} {cs : Nat → ClassId} (a : Nat) : bb_MI l yX1_init cX1_init 1 1 9 104 D cs [.ref a] (fun w => ∃ h : Nat → Nat, h 0 = a ∧ w = wX1 cs h bb_o0) [(a, .inr (1, [.null, .int 0, .int 0]))] := by
  refine bb_mgI (by decide) rfl rfl (Nat.le_of_ble_eq_true rfl) rfl (fun X hl hD hcs hXR C hR hr hnm hE R => ?_)
  subst hl
  subst hD
  subst hcs
  refine z_aload_n (pc := 0) (i := 0) C 0 dX1_init_0 rfl rfl ?_
  refine z_obj (pc := 1) C (hR.le (by decide)) bm_X1_3 bw_oi bw_oc (Nat.le_of_ble_eq_true rfl) dX1_init_1 ?_
  refine z_aload_n (pc := 4) (i := 0) C 0 dX1_init_4 rfl rfl ?_
  refine z_bipush (pc := 5) C (8 : Int32) dX1_init_5 (by decide) ?_
  refine z_bipush (pc := 7) C (12 : Int32) dX1_init_7 (by decide) ?_
  refine z_mna (pc := 9) C bw_cl_X1_11 bw_ac_int hE.2.2.2.2.2 (show 0 + 9 ≤ X.R.cells by rw [hXR]; decide) (show 0 + 104 ≤ X.R.slots by rw [hXR]; decide) dX1_init_9 (fun q r => ?_)
  have C1 : bb_C (X.kn 9 104) RX1 cX1_init 1 := C.kn (show 9 ≤ X.R.cells by rw [hXR]; decide) (show 104 ≤ X.R.slots by rw [hXR]; decide)
  show bb_Z (X.kn 9 104) 1 ([(a, .inr (1, [.null, .int 0, .int 0])), (q, .inl (X.cs 3, 8, .inr (.inr (.inr (.inr (fun i => if i < 8 then some (r i) else none))))))] ++ [r 0, r 1, r 2, r 3, r 4, r 5, r 6, r 7].map (fun a => (a, .inl (X.cs 0, 12, .inl (fun _ => 0))))) 13 [(0, .ref a)] [.ref q, .ref a]
  refine z_putF (pc := 13) (ci := 1) (ty := .array (.array .int)) (ws' := [(a, .inr (1, [.ref q, .int 0, .int 0])), (q, .inl (X.cs 3, 8, .inr (.inr (.inr (.inr (fun i => if i < 8 then some (r i) else none))))))] ++ [r 0, r 1, r 2, r 3, r 4, r 5, r 6, r 7].map (fun a => (a, .inl (X.cs 0, 12, .inl (fun _ => 0))))) C1 hnm bi_X1 tyX1_ok nmX1 rfl 0 0 (by decide) rfl bf_X1_13 rfl rfl rfl rfl rfl (Nat.le_of_ble_eq_true rfl) rfl dX1_init_13 ?_
  refine z_vretI (pc := 16) C1 hr R (Nat.le_of_ble_eq_true rfl) (Nat.le_of_ble_eq_true rfl) ⟨fun i => if 10 ≤ i then r (i - 10) else if i = 1 then q else a, rfl, ?_⟩ dX1_init_16
  have e : (fun i => if i < 8 then some (r i) else none) = (fun i => if i < 8 then some ((fun i => if 10 ≤ i then r (i - 10) else if i = 1 then q else a) (10 + i)) else none) := by
    funext i
    show _ = if i < 8 then some (if 10 ≤ 10 + i then r (10 + i - 10) else (if 10 + i = 1 then q else a)) else none
    rw [if_pos (show 10 ≤ 10 + i from Nat.le_add_right 10 i), Nat.add_sub_cancel_left]
  rw [e]
  rfl
set_option maxHeartbeats 4000000 in
set_option maxRecDepth 100000 in
theorem i_X5 {l : Launch} {D : va_G} {cs : Nat → ClassId} (a : Nat) {s1 s2 s3 s4 s5 s6 : bb_O} (hq : F_X5_fresh_0 bb_o0 4 5 = some s1) (h2 : bb_sA s1 0 (upd (s1.2.1 0) 8 1) = s2) (h3 : bb_sA s2 14 (upd (s2.2.1 14) 0 (-1)) = s3) (h4 : bb_sA s3 14 (upd (s3.2.1 14) 1 (-1)) = s4) (h5 : bb_sA s4 14 (upd (s4.2.1 14) 2 (-1)) = s5) (h6 : bb_sA s5 14 (upd (s5.2.1 14) 3 (-1)) = s6) : bb_MI l yX5_init cX5_init 2 2 10 551 D cs [.ref a] (fun w => ∃ h : Nat → Nat, h 0 = a ∧ w = wX5 cs h s6) [(a, .inr (5, [.null, .int 0, .int 0, .null, .int 0, .int 0, .int 0, .null, .null, .int 0, .null, .null, .int 0, .int 0, .null, .null, .null, .null]))] := by
  refine bb_mgI (by decide) rfl rfl (Nat.le_of_ble_eq_true rfl) rfl (fun X hl hD hcs hXR C hR hr hnm hE R => ?_)
  subst hl
  subst hD
  subst hcs
  have C0 := C
  refine z_aload_n (pc := 0) (i := 0) C 0 dX5_init_0 rfl rfl ?_
  refine z_obj (pc := 1) C (hR.le (by decide)) bm_X5_1 bw_oi bw_oc (Nat.le_of_ble_eq_true rfl) dX5_init_1 ?_
  refine z_aload_n (pc := 4) (i := 0) C 0 dX5_init_4 rfl rfl ?_
  refine z_bipush (pc := 5) C (39 : Int32) dX5_init_5 (by decide) ?_
  refine z_newa (pc := 7) (ty := .int) (atype := .int) (a0 := (39, .inl (fun _ => 0))) C 0 rfl bw_ac_int rfl (fun _ h => h) (fun _ => rfl) (by decide) (by decide) (by decide) (show 0 + 1 ≤ X.R.cells by rw [hXR]; decide) (show 0 + 39 ≤ X.R.slots by rw [hXR]; decide) dX5_init_7 (fun q1 => ?_)
  have C1 : bb_C (X.kn 1 39) RX5 cX5_init 2 := C0.kn (show 1 ≤ X.R.cells by rw [hXR]; decide) (show 39 ≤ X.R.slots by rw [hXR]; decide)
  show bb_Z (X.kn 1 39) 2 ([(a, .inr (5, [.null, .int 0, .int 0, .null, .int 0, .int 0, .int 0, .null, .null, .int 0, .null, .null, .int 0, .int 0, .null, .null, .null, .null])), (q1, .inl (X.cs 0, 39, .inl (fun _ => 0)))]) 9 [(0, .ref a)] (.ref q1 :: [.ref a])
  refine z_putF (pc := 9) (ci := 5) (ty := .array .int) (ws' := [(a, .inr (5, [.ref q1, .int 0, .int 0, .null, .int 0, .int 0, .int 0, .null, .null, .int 0, .null, .null, .int 0, .int 0, .null, .null, .null, .null])), (q1, .inl (X.cs 0, 39, .inl (fun _ => 0)))]) C1 hnm bi_X5 tyX5_ok nmX5 rfl 0 0 (by decide) rfl bf_X5_7 rfl rfl rfl rfl rfl (Nat.le_of_ble_eq_true rfl) rfl dX5_init_9 ?_
  refine z_aload_n (pc := 12) (i := 0) C1 0 dX5_init_12 rfl rfl ?_
  refine z_bipush (pc := 13) C1 (90 : Int32) dX5_init_13 (by decide) ?_
  refine z_newa (pc := 15) (ty := .int) (atype := .int) (a0 := (90, .inl (fun _ => 0))) C1 0 rfl bw_ac_int rfl (fun _ h => h) (fun _ => rfl) (by decide) (by decide) (by decide) (show 1 + 1 ≤ X.R.cells by rw [hXR]; decide) (show 39 + 90 ≤ X.R.slots by rw [hXR]; decide) dX5_init_15 (fun q2 => ?_)
  have C2 : bb_C (X.kn 2 129) RX5 cX5_init 2 := C0.kn (show 2 ≤ X.R.cells by rw [hXR]; decide) (show 129 ≤ X.R.slots by rw [hXR]; decide)
  show bb_Z (X.kn 2 129) 2 ([(a, .inr (5, [.ref q1, .int 0, .int 0, .null, .int 0, .int 0, .int 0, .null, .null, .int 0, .null, .null, .int 0, .int 0, .null, .null, .null, .null])), (q1, .inl (X.cs 0, 39, .inl (fun _ => 0))), (q2, .inl (X.cs 0, 90, .inl (fun _ => 0)))]) 17 [(0, .ref a)] (.ref q2 :: [.ref a])
  refine z_putF (pc := 17) (ci := 5) (ty := .array .int) (ws' := [(a, .inr (5, [.ref q1, .int 0, .int 0, .ref q2, .int 0, .int 0, .int 0, .null, .null, .int 0, .null, .null, .int 0, .int 0, .null, .null, .null, .null])), (q1, .inl (X.cs 0, 39, .inl (fun _ => 0))), (q2, .inl (X.cs 0, 90, .inl (fun _ => 0)))]) C2 hnm bi_X5 tyX5_ok nmX5 rfl 0 3 (by decide) rfl bf_X5_13 rfl rfl rfl rfl rfl (Nat.le_of_ble_eq_true rfl) rfl dX5_init_17 ?_
  refine z_aload_n (pc := 20) (i := 0) C2 0 dX5_init_20 rfl rfl ?_
  refine z_bipush (pc := 21) C2 (24 : Int32) dX5_init_21 (by decide) ?_
  refine z_newa (pc := 23) (ty := .int) (atype := .int) (a0 := (24, .inl (fun _ => 0))) C2 0 rfl bw_ac_int rfl (fun _ h => h) (fun _ => rfl) (by decide) (by decide) (by decide) (show 2 + 1 ≤ X.R.cells by rw [hXR]; decide) (show 129 + 24 ≤ X.R.slots by rw [hXR]; decide) dX5_init_23 (fun q3 => ?_)
  have C3 : bb_C (X.kn 3 153) RX5 cX5_init 2 := C0.kn (show 3 ≤ X.R.cells by rw [hXR]; decide) (show 153 ≤ X.R.slots by rw [hXR]; decide)
  show bb_Z (X.kn 3 153) 2 ([(a, .inr (5, [.ref q1, .int 0, .int 0, .ref q2, .int 0, .int 0, .int 0, .null, .null, .int 0, .null, .null, .int 0, .int 0, .null, .null, .null, .null])), (q1, .inl (X.cs 0, 39, .inl (fun _ => 0))), (q2, .inl (X.cs 0, 90, .inl (fun _ => 0))), (q3, .inl (X.cs 0, 24, .inl (fun _ => 0)))]) 25 [(0, .ref a)] (.ref q3 :: [.ref a])
  refine z_putF (pc := 25) (ci := 5) (ty := .array .int) (ws' := [(a, .inr (5, [.ref q1, .int 0, .int 0, .ref q2, .int 0, .int 0, .int 0, .ref q3, .null, .int 0, .null, .null, .int 0, .int 0, .null, .null, .null, .null])), (q1, .inl (X.cs 0, 39, .inl (fun _ => 0))), (q2, .inl (X.cs 0, 90, .inl (fun _ => 0))), (q3, .inl (X.cs 0, 24, .inl (fun _ => 0)))]) C3 hnm bi_X5 tyX5_ok nmX5 rfl 0 7 (by decide) rfl bf_X5_16 rfl rfl rfl rfl rfl (Nat.le_of_ble_eq_true rfl) rfl dX5_init_25 ?_
  refine z_aload_n (pc := 28) (i := 0) C3 0 dX5_init_28 rfl rfl ?_
  refine z_bipush (pc := 29) C3 (96 : Int32) dX5_init_29 (by decide) ?_
  refine z_newa (pc := 31) (ty := .int) (atype := .int) (a0 := (96, .inl (fun _ => 0))) C3 0 rfl bw_ac_int rfl (fun _ h => h) (fun _ => rfl) (by decide) (by decide) (by decide) (show 3 + 1 ≤ X.R.cells by rw [hXR]; decide) (show 153 + 96 ≤ X.R.slots by rw [hXR]; decide) dX5_init_31 (fun q4 => ?_)
  have C4 : bb_C (X.kn 4 249) RX5 cX5_init 2 := C0.kn (show 4 ≤ X.R.cells by rw [hXR]; decide) (show 249 ≤ X.R.slots by rw [hXR]; decide)
  show bb_Z (X.kn 4 249) 2 ([(a, .inr (5, [.ref q1, .int 0, .int 0, .ref q2, .int 0, .int 0, .int 0, .ref q3, .null, .int 0, .null, .null, .int 0, .int 0, .null, .null, .null, .null])), (q1, .inl (X.cs 0, 39, .inl (fun _ => 0))), (q2, .inl (X.cs 0, 90, .inl (fun _ => 0))), (q3, .inl (X.cs 0, 24, .inl (fun _ => 0))), (q4, .inl (X.cs 0, 96, .inl (fun _ => 0)))]) 33 [(0, .ref a)] (.ref q4 :: [.ref a])
  refine z_putF (pc := 33) (ci := 5) (ty := .array .int) (ws' := [(a, .inr (5, [.ref q1, .int 0, .int 0, .ref q2, .int 0, .int 0, .int 0, .ref q3, .ref q4, .int 0, .null, .null, .int 0, .int 0, .null, .null, .null, .null])), (q1, .inl (X.cs 0, 39, .inl (fun _ => 0))), (q2, .inl (X.cs 0, 90, .inl (fun _ => 0))), (q3, .inl (X.cs 0, 24, .inl (fun _ => 0))), (q4, .inl (X.cs 0, 96, .inl (fun _ => 0)))]) C4 hnm bi_X5 tyX5_ok nmX5 rfl 0 8 (by decide) rfl bf_X5_19 rfl rfl rfl rfl rfl (Nat.le_of_ble_eq_true rfl) rfl dX5_init_33 ?_
  refine z_aload_n (pc := 36) (i := 0) C4 0 dX5_init_36 rfl rfl ?_
  refine z_bipush (pc := 37) C4 (39 : Int32) dX5_init_37 (by decide) ?_
  refine z_newa (pc := 39) (ty := .int) (atype := .int) (a0 := (39, .inl (fun _ => 0))) C4 0 rfl bw_ac_int rfl (fun _ h => h) (fun _ => rfl) (by decide) (by decide) (by decide) (show 4 + 1 ≤ X.R.cells by rw [hXR]; decide) (show 249 + 39 ≤ X.R.slots by rw [hXR]; decide) dX5_init_39 (fun q5 => ?_)
  have C5 : bb_C (X.kn 5 288) RX5 cX5_init 2 := C0.kn (show 5 ≤ X.R.cells by rw [hXR]; decide) (show 288 ≤ X.R.slots by rw [hXR]; decide)
  show bb_Z (X.kn 5 288) 2 ([(a, .inr (5, [.ref q1, .int 0, .int 0, .ref q2, .int 0, .int 0, .int 0, .ref q3, .ref q4, .int 0, .null, .null, .int 0, .int 0, .null, .null, .null, .null])), (q1, .inl (X.cs 0, 39, .inl (fun _ => 0))), (q2, .inl (X.cs 0, 90, .inl (fun _ => 0))), (q3, .inl (X.cs 0, 24, .inl (fun _ => 0))), (q4, .inl (X.cs 0, 96, .inl (fun _ => 0))), (q5, .inl (X.cs 0, 39, .inl (fun _ => 0)))]) 41 [(0, .ref a)] (.ref q5 :: [.ref a])
  refine z_putF (pc := 41) (ci := 5) (ty := .array .int) (ws' := [(a, .inr (5, [.ref q1, .int 0, .int 0, .ref q2, .int 0, .int 0, .int 0, .ref q3, .ref q4, .int 0, .ref q5, .null, .int 0, .int 0, .null, .null, .null, .null])), (q1, .inl (X.cs 0, 39, .inl (fun _ => 0))), (q2, .inl (X.cs 0, 90, .inl (fun _ => 0))), (q3, .inl (X.cs 0, 24, .inl (fun _ => 0))), (q4, .inl (X.cs 0, 96, .inl (fun _ => 0))), (q5, .inl (X.cs 0, 39, .inl (fun _ => 0)))]) C5 hnm bi_X5 tyX5_ok nmX5 rfl 0 10 (by decide) rfl bf_X5_22 rfl rfl rfl rfl rfl (Nat.le_of_ble_eq_true rfl) rfl dX5_init_41 ?_
  refine z_aload_n (pc := 44) (i := 0) C5 0 dX5_init_44 rfl rfl ?_
  refine z_sipush (pc := 45) C5 (135 : Int32) dX5_init_45 (by decide) ?_
  refine z_newa (pc := 48) (ty := .int) (atype := .int) (a0 := (135, .inl (fun _ => 0))) C5 0 rfl bw_ac_int rfl (fun _ h => h) (fun _ => rfl) (by decide) (by decide) (by decide) (show 5 + 1 ≤ X.R.cells by rw [hXR]; decide) (show 288 + 135 ≤ X.R.slots by rw [hXR]; decide) dX5_init_48 (fun q6 => ?_)
  have C6 : bb_C (X.kn 6 423) RX5 cX5_init 2 := C0.kn (show 6 ≤ X.R.cells by rw [hXR]; decide) (show 423 ≤ X.R.slots by rw [hXR]; decide)
  show bb_Z (X.kn 6 423) 2 ([(a, .inr (5, [.ref q1, .int 0, .int 0, .ref q2, .int 0, .int 0, .int 0, .ref q3, .ref q4, .int 0, .ref q5, .null, .int 0, .int 0, .null, .null, .null, .null])), (q1, .inl (X.cs 0, 39, .inl (fun _ => 0))), (q2, .inl (X.cs 0, 90, .inl (fun _ => 0))), (q3, .inl (X.cs 0, 24, .inl (fun _ => 0))), (q4, .inl (X.cs 0, 96, .inl (fun _ => 0))), (q5, .inl (X.cs 0, 39, .inl (fun _ => 0))), (q6, .inl (X.cs 0, 135, .inl (fun _ => 0)))]) 50 [(0, .ref a)] (.ref q6 :: [.ref a])
  refine z_putF (pc := 50) (ci := 5) (ty := .array .int) (ws' := [(a, .inr (5, [.ref q1, .int 0, .int 0, .ref q2, .int 0, .int 0, .int 0, .ref q3, .ref q4, .int 0, .ref q5, .ref q6, .int 0, .int 0, .null, .null, .null, .null])), (q1, .inl (X.cs 0, 39, .inl (fun _ => 0))), (q2, .inl (X.cs 0, 90, .inl (fun _ => 0))), (q3, .inl (X.cs 0, 24, .inl (fun _ => 0))), (q4, .inl (X.cs 0, 96, .inl (fun _ => 0))), (q5, .inl (X.cs 0, 39, .inl (fun _ => 0))), (q6, .inl (X.cs 0, 135, .inl (fun _ => 0)))]) C6 hnm bi_X5 tyX5_ok nmX5 rfl 0 11 (by decide) rfl bf_X5_25 rfl rfl rfl rfl rfl (Nat.le_of_ble_eq_true rfl) rfl dX5_init_50 ?_
  refine z_aload_n (pc := 53) (i := 0) C6 0 dX5_init_53 rfl rfl ?_
  refine z_iconst (pc := 54) C6 (4 : Int32) dX5_init_54 (by decide) ?_
  refine z_newa (pc := 55) (ty := .int) (atype := .int) (a0 := (4, .inl (fun _ => 0))) C6 0 rfl bw_ac_int rfl (fun _ h => h) (fun _ => rfl) (by decide) (by decide) (by decide) (show 6 + 1 ≤ X.R.cells by rw [hXR]; decide) (show 423 + 4 ≤ X.R.slots by rw [hXR]; decide) dX5_init_55 (fun q7 => ?_)
  have C7 : bb_C (X.kn 7 427) RX5 cX5_init 2 := C0.kn (show 7 ≤ X.R.cells by rw [hXR]; decide) (show 427 ≤ X.R.slots by rw [hXR]; decide)
  show bb_Z (X.kn 7 427) 2 ([(a, .inr (5, [.ref q1, .int 0, .int 0, .ref q2, .int 0, .int 0, .int 0, .ref q3, .ref q4, .int 0, .ref q5, .ref q6, .int 0, .int 0, .null, .null, .null, .null])), (q1, .inl (X.cs 0, 39, .inl (fun _ => 0))), (q2, .inl (X.cs 0, 90, .inl (fun _ => 0))), (q3, .inl (X.cs 0, 24, .inl (fun _ => 0))), (q4, .inl (X.cs 0, 96, .inl (fun _ => 0))), (q5, .inl (X.cs 0, 39, .inl (fun _ => 0))), (q6, .inl (X.cs 0, 135, .inl (fun _ => 0))), (q7, .inl (X.cs 0, 4, .inl (fun _ => 0)))]) 57 [(0, .ref a)] (.ref q7 :: [.ref a])
  refine z_putF (pc := 57) (ci := 5) (ty := .array .int) (ws' := [(a, .inr (5, [.ref q1, .int 0, .int 0, .ref q2, .int 0, .int 0, .int 0, .ref q3, .ref q4, .int 0, .ref q5, .ref q6, .int 0, .int 0, .ref q7, .null, .null, .null])), (q1, .inl (X.cs 0, 39, .inl (fun _ => 0))), (q2, .inl (X.cs 0, 90, .inl (fun _ => 0))), (q3, .inl (X.cs 0, 24, .inl (fun _ => 0))), (q4, .inl (X.cs 0, 96, .inl (fun _ => 0))), (q5, .inl (X.cs 0, 39, .inl (fun _ => 0))), (q6, .inl (X.cs 0, 135, .inl (fun _ => 0))), (q7, .inl (X.cs 0, 4, .inl (fun _ => 0)))]) C7 hnm bi_X5 tyX5_ok nmX5 rfl 0 14 (by decide) rfl bf_X5_28 rfl rfl rfl rfl rfl (Nat.le_of_ble_eq_true rfl) rfl dX5_init_57 ?_
  refine z_aload_n (pc := 60) (i := 0) C7 0 dX5_init_60 rfl rfl ?_
  refine z_iconst (pc := 61) C7 (4 : Int32) dX5_init_61 (by decide) ?_
  refine z_newa (pc := 62) (ty := .int) (atype := .int) (a0 := (4, .inl (fun _ => 0))) C7 0 rfl bw_ac_int rfl (fun _ h => h) (fun _ => rfl) (by decide) (by decide) (by decide) (show 7 + 1 ≤ X.R.cells by rw [hXR]; decide) (show 427 + 4 ≤ X.R.slots by rw [hXR]; decide) dX5_init_62 (fun q8 => ?_)
  have C8 : bb_C (X.kn 8 431) RX5 cX5_init 2 := C0.kn (show 8 ≤ X.R.cells by rw [hXR]; decide) (show 431 ≤ X.R.slots by rw [hXR]; decide)
  show bb_Z (X.kn 8 431) 2 ([(a, .inr (5, [.ref q1, .int 0, .int 0, .ref q2, .int 0, .int 0, .int 0, .ref q3, .ref q4, .int 0, .ref q5, .ref q6, .int 0, .int 0, .ref q7, .null, .null, .null])), (q1, .inl (X.cs 0, 39, .inl (fun _ => 0))), (q2, .inl (X.cs 0, 90, .inl (fun _ => 0))), (q3, .inl (X.cs 0, 24, .inl (fun _ => 0))), (q4, .inl (X.cs 0, 96, .inl (fun _ => 0))), (q5, .inl (X.cs 0, 39, .inl (fun _ => 0))), (q6, .inl (X.cs 0, 135, .inl (fun _ => 0))), (q7, .inl (X.cs 0, 4, .inl (fun _ => 0))), (q8, .inl (X.cs 0, 4, .inl (fun _ => 0)))]) 64 [(0, .ref a)] (.ref q8 :: [.ref a])
  refine z_putF (pc := 64) (ci := 5) (ty := .array .int) (ws' := [(a, .inr (5, [.ref q1, .int 0, .int 0, .ref q2, .int 0, .int 0, .int 0, .ref q3, .ref q4, .int 0, .ref q5, .ref q6, .int 0, .int 0, .ref q7, .ref q8, .null, .null])), (q1, .inl (X.cs 0, 39, .inl (fun _ => 0))), (q2, .inl (X.cs 0, 90, .inl (fun _ => 0))), (q3, .inl (X.cs 0, 24, .inl (fun _ => 0))), (q4, .inl (X.cs 0, 96, .inl (fun _ => 0))), (q5, .inl (X.cs 0, 39, .inl (fun _ => 0))), (q6, .inl (X.cs 0, 135, .inl (fun _ => 0))), (q7, .inl (X.cs 0, 4, .inl (fun _ => 0))), (q8, .inl (X.cs 0, 4, .inl (fun _ => 0)))]) C8 hnm bi_X5 tyX5_ok nmX5 rfl 0 15 (by decide) rfl bf_X5_31 rfl rfl rfl rfl rfl (Nat.le_of_ble_eq_true rfl) rfl dX5_init_64 ?_
  refine z_aload_n (pc := 67) (i := 0) C8 0 dX5_init_67 rfl rfl ?_
  refine z_bipush (pc := 68) C8 (96 : Int32) dX5_init_68 (by decide) ?_
  refine z_newa (pc := 70) (ty := .long) (atype := .long) (a0 := (96, .inr (.inl (fun _ => 0)))) C8 1 rfl bw_ac_long rfl (fun _ h => h) (fun _ => rfl) (by decide) (by decide) (by decide) (show 8 + 1 ≤ X.R.cells by rw [hXR]; decide) (show 431 + 96 ≤ X.R.slots by rw [hXR]; decide) dX5_init_70 (fun q9 => ?_)
  have C9 : bb_C (X.kn 9 527) RX5 cX5_init 2 := C0.kn (show 9 ≤ X.R.cells by rw [hXR]; decide) (show 527 ≤ X.R.slots by rw [hXR]; decide)
  show bb_Z (X.kn 9 527) 2 ([(a, .inr (5, [.ref q1, .int 0, .int 0, .ref q2, .int 0, .int 0, .int 0, .ref q3, .ref q4, .int 0, .ref q5, .ref q6, .int 0, .int 0, .ref q7, .ref q8, .null, .null])), (q1, .inl (X.cs 0, 39, .inl (fun _ => 0))), (q2, .inl (X.cs 0, 90, .inl (fun _ => 0))), (q3, .inl (X.cs 0, 24, .inl (fun _ => 0))), (q4, .inl (X.cs 0, 96, .inl (fun _ => 0))), (q5, .inl (X.cs 0, 39, .inl (fun _ => 0))), (q6, .inl (X.cs 0, 135, .inl (fun _ => 0))), (q7, .inl (X.cs 0, 4, .inl (fun _ => 0))), (q8, .inl (X.cs 0, 4, .inl (fun _ => 0))), (q9, .inl (X.cs 1, 96, .inr (.inl (fun _ => 0))))]) 72 [(0, .ref a)] (.ref q9 :: [.ref a])
  refine z_putF (pc := 72) (ci := 5) (ty := .array .long) (ws' := [(a, .inr (5, [.ref q1, .int 0, .int 0, .ref q2, .int 0, .int 0, .int 0, .ref q3, .ref q4, .int 0, .ref q5, .ref q6, .int 0, .int 0, .ref q7, .ref q8, .ref q9, .null])), (q1, .inl (X.cs 0, 39, .inl (fun _ => 0))), (q2, .inl (X.cs 0, 90, .inl (fun _ => 0))), (q3, .inl (X.cs 0, 24, .inl (fun _ => 0))), (q4, .inl (X.cs 0, 96, .inl (fun _ => 0))), (q5, .inl (X.cs 0, 39, .inl (fun _ => 0))), (q6, .inl (X.cs 0, 135, .inl (fun _ => 0))), (q7, .inl (X.cs 0, 4, .inl (fun _ => 0))), (q8, .inl (X.cs 0, 4, .inl (fun _ => 0))), (q9, .inl (X.cs 1, 96, .inr (.inl (fun _ => 0))))]) C9 hnm bi_X5 tyX5_ok nmX5 rfl 0 16 (by decide) rfl bf_X5_34 rfl rfl rfl rfl rfl (Nat.le_of_ble_eq_true rfl) rfl dX5_init_72 ?_
  refine z_aload_n (pc := 75) (i := 0) C9 0 dX5_init_75 rfl rfl ?_
  refine z_bipush (pc := 76) C9 (24 : Int32) dX5_init_76 (by decide) ?_
  refine z_newa (pc := 78) (ty := .long) (atype := .long) (a0 := (24, .inr (.inl (fun _ => 0)))) C9 1 rfl bw_ac_long rfl (fun _ h => h) (fun _ => rfl) (by decide) (by decide) (by decide) (show 9 + 1 ≤ X.R.cells by rw [hXR]; decide) (show 527 + 24 ≤ X.R.slots by rw [hXR]; decide) dX5_init_78 (fun q10 => ?_)
  have C10 : bb_C (X.kn 10 551) RX5 cX5_init 2 := C0.kn (show 10 ≤ X.R.cells by rw [hXR]; decide) (show 551 ≤ X.R.slots by rw [hXR]; decide)
  show bb_Z (X.kn 10 551) 2 ([(a, .inr (5, [.ref q1, .int 0, .int 0, .ref q2, .int 0, .int 0, .int 0, .ref q3, .ref q4, .int 0, .ref q5, .ref q6, .int 0, .int 0, .ref q7, .ref q8, .ref q9, .null])), (q1, .inl (X.cs 0, 39, .inl (fun _ => 0))), (q2, .inl (X.cs 0, 90, .inl (fun _ => 0))), (q3, .inl (X.cs 0, 24, .inl (fun _ => 0))), (q4, .inl (X.cs 0, 96, .inl (fun _ => 0))), (q5, .inl (X.cs 0, 39, .inl (fun _ => 0))), (q6, .inl (X.cs 0, 135, .inl (fun _ => 0))), (q7, .inl (X.cs 0, 4, .inl (fun _ => 0))), (q8, .inl (X.cs 0, 4, .inl (fun _ => 0))), (q9, .inl (X.cs 1, 96, .inr (.inl (fun _ => 0)))), (q10, .inl (X.cs 1, 24, .inr (.inl (fun _ => 0))))]) 80 [(0, .ref a)] (.ref q10 :: [.ref a])
  refine z_putF (pc := 80) (ci := 5) (ty := .array .long) (ws' := [(a, .inr (5, [.ref q1, .int 0, .int 0, .ref q2, .int 0, .int 0, .int 0, .ref q3, .ref q4, .int 0, .ref q5, .ref q6, .int 0, .int 0, .ref q7, .ref q8, .ref q9, .ref q10])), (q1, .inl (X.cs 0, 39, .inl (fun _ => 0))), (q2, .inl (X.cs 0, 90, .inl (fun _ => 0))), (q3, .inl (X.cs 0, 24, .inl (fun _ => 0))), (q4, .inl (X.cs 0, 96, .inl (fun _ => 0))), (q5, .inl (X.cs 0, 39, .inl (fun _ => 0))), (q6, .inl (X.cs 0, 135, .inl (fun _ => 0))), (q7, .inl (X.cs 0, 4, .inl (fun _ => 0))), (q8, .inl (X.cs 0, 4, .inl (fun _ => 0))), (q9, .inl (X.cs 1, 96, .inr (.inl (fun _ => 0)))), (q10, .inl (X.cs 1, 24, .inr (.inl (fun _ => 0))))]) C10 hnm bi_X5 tyX5_ok nmX5 rfl 0 17 (by decide) rfl bf_X5_38 rfl rfl rfl rfl rfl (Nat.le_of_ble_eq_true rfl) rfl dX5_init_80 ?_
  obtain ⟨h, hh, hw⟩ : ∃ h : Nat → Nat, h 0 = a ∧ [(a, .inr (5, [.ref q1, .int 0, .int 0, .ref q2, .int 0, .int 0, .int 0, .ref q3, .ref q4, .int 0, .ref q5, .ref q6, .int 0, .int 0, .ref q7, .ref q8, .ref q9, .ref q10])), (q1, .inl (X.cs 0, 39, .inl (fun _ => 0))), (q2, .inl (X.cs 0, 90, .inl (fun _ => 0))), (q3, .inl (X.cs 0, 24, .inl (fun _ => 0))), (q4, .inl (X.cs 0, 96, .inl (fun _ => 0))), (q5, .inl (X.cs 0, 39, .inl (fun _ => 0))), (q6, .inl (X.cs 0, 135, .inl (fun _ => 0))), (q7, .inl (X.cs 0, 4, .inl (fun _ => 0))), (q8, .inl (X.cs 0, 4, .inl (fun _ => 0))), (q9, .inl (X.cs 1, 96, .inr (.inl (fun _ => 0)))), (q10, .inl (X.cs 1, 24, .inr (.inl (fun _ => 0))))] = wX5 X.cs h bb_o0 := ⟨fun i => if i = 1 then q1 else if i = 4 then q2 else if i = 8 then q3 else if i = 9 then q4 else if i = 11 then q5 else if i = 12 then q6 else if i = 15 then q7 else if i = 16 then q8 else if i = 17 then q9 else if i = 18 then q10 else a, rfl, rfl⟩
  refine bb_Z.w hw ?_
  clear hw
  subst hh
  refine z_aload_n (pc := 83) (i := 0) C10 0 dX5_init_83 rfl rfl ?_
  refine z_iconst (pc := 84) C10 (4 : Int32) dX5_init_84 (by decide) ?_
  refine z_iconst (pc := 85) C10 (5 : Int32) dX5_init_85 (by decide) ?_
  refine z_callVv (pc := 86) (ci := 5) (q0 := 0) (As := [.int 4, .int 5]) (rest := []) (ws' := wX5 X.cs h s1) C10 (hR.le (by decide)) (c_X5_fresh h hq) (bb_cut_self _ _) bv_X5_fresh bm_X5_41 rfl rfl rfl rfl (Nat.le_of_ble_eq_true rfl) dX5_init_86 ?_
  refine z_aload_n (pc := 89) (i := 0) C10 0 dX5_init_89 rfl rfl ?_
  refine z_get (pc := 90) (ci := 5) C10 (.ref (h 1)) bi_X5 rfl 0 0 (by decide) rfl bf_X5_7 rfl rfl dX5_init_90 ?_
  refine z_bipush (pc := 93) C10 (8 : Int32) dX5_init_93 (by decide) ?_
  refine z_iconst (pc := 95) C10 (1 : Int32) dX5_init_95 (by decide) ?_
  refine z_iast (pc := 96) (ws' := wX5 X.cs h s2) C10 1 0 8 rfl rfl (show ¬ ((8 : Int32) < 0 ∨ 39 ≤ (8 : Int32).toNatClampNeg) by decide) (by decide) (by rw [← h2]; rfl) dX5_init_96 ?_
  refine z_iconst (pc := 97) C10 (0 : Int32) dX5_init_97 (by decide) ?_
  refine z_istore_n (pc := 98) (i := 1) (lv' := [(1, .int 0), (0, .ref (h 0))]) C10 dX5_init_98 rfl (by decide) rfl ?_
  refine z_iload_n (pc := 99) (i := 1) C10 0 dX5_init_99 rfl rfl ?_
  refine z_iconst (pc := 100) C10 (4 : Int32) dX5_init_100 (by decide) ?_
  refine z_icmp_ge (pc := 101) C10 117 dX5_init_101 (by decide) (fun hc => absurd hc (by decide)) (fun _ => ?_)
  refine z_aload_n (pc := 104) (i := 0) C10 1 dX5_init_104 rfl rfl ?_
  refine z_get (pc := 105) (ci := 5) C10 (.ref (h 15)) bi_X5 rfl 0 14 (by decide) rfl bf_X5_28 rfl rfl dX5_init_105 ?_
  refine z_iload_n (pc := 108) (i := 1) C10 0 dX5_init_108 rfl rfl ?_
  refine z_iconst (pc := 109) C10 (-1 : Int32) dX5_init_109 (by decide) ?_
  refine z_iast (pc := 110) (ws' := wX5 X.cs h s3) C10 7 0 0 rfl rfl (show ¬ ((0 : Int32) < 0 ∨ 4 ≤ (0 : Int32).toNatClampNeg) by decide) (by decide) (by rw [← h3]; rfl) dX5_init_110 ?_
  refine z_iinc (pc := 111) (lv' := [(1, .int 1), (0, .ref (h 0))]) C10 (1 : Int32) 0 dX5_init_111 rfl (by decide) (by decide) rfl ?_
  refine z_goto (pc := 114) C10 99 dX5_init_114 (by decide) ?_
  refine z_iload_n (pc := 99) (i := 1) C10 0 dX5_init_99 rfl rfl ?_
  refine z_iconst (pc := 100) C10 (4 : Int32) dX5_init_100 (by decide) ?_
  refine z_icmp_ge (pc := 101) C10 117 dX5_init_101 (by decide) (fun hc => absurd hc (by decide)) (fun _ => ?_)
  refine z_aload_n (pc := 104) (i := 0) C10 1 dX5_init_104 rfl rfl ?_
  refine z_get (pc := 105) (ci := 5) C10 (.ref (h 15)) bi_X5 rfl 0 14 (by decide) rfl bf_X5_28 rfl rfl dX5_init_105 ?_
  refine z_iload_n (pc := 108) (i := 1) C10 0 dX5_init_108 rfl rfl ?_
  refine z_iconst (pc := 109) C10 (-1 : Int32) dX5_init_109 (by decide) ?_
  refine z_iast (pc := 110) (ws' := wX5 X.cs h s4) C10 7 0 1 rfl rfl (show ¬ ((1 : Int32) < 0 ∨ 4 ≤ (1 : Int32).toNatClampNeg) by decide) (by decide) (by rw [← h4]; rfl) dX5_init_110 ?_
  refine z_iinc (pc := 111) (lv' := [(1, .int 2), (0, .ref (h 0))]) C10 (2 : Int32) 0 dX5_init_111 rfl (by decide) (by decide) rfl ?_
  refine z_goto (pc := 114) C10 99 dX5_init_114 (by decide) ?_
  refine z_iload_n (pc := 99) (i := 1) C10 0 dX5_init_99 rfl rfl ?_
  refine z_iconst (pc := 100) C10 (4 : Int32) dX5_init_100 (by decide) ?_
  refine z_icmp_ge (pc := 101) C10 117 dX5_init_101 (by decide) (fun hc => absurd hc (by decide)) (fun _ => ?_)
  refine z_aload_n (pc := 104) (i := 0) C10 1 dX5_init_104 rfl rfl ?_
  refine z_get (pc := 105) (ci := 5) C10 (.ref (h 15)) bi_X5 rfl 0 14 (by decide) rfl bf_X5_28 rfl rfl dX5_init_105 ?_
  refine z_iload_n (pc := 108) (i := 1) C10 0 dX5_init_108 rfl rfl ?_
  refine z_iconst (pc := 109) C10 (-1 : Int32) dX5_init_109 (by decide) ?_
  refine z_iast (pc := 110) (ws' := wX5 X.cs h s5) C10 7 0 2 rfl rfl (show ¬ ((2 : Int32) < 0 ∨ 4 ≤ (2 : Int32).toNatClampNeg) by decide) (by decide) (by rw [← h5]; rfl) dX5_init_110 ?_
  refine z_iinc (pc := 111) (lv' := [(1, .int 3), (0, .ref (h 0))]) C10 (3 : Int32) 0 dX5_init_111 rfl (by decide) (by decide) rfl ?_
  refine z_goto (pc := 114) C10 99 dX5_init_114 (by decide) ?_
  refine z_iload_n (pc := 99) (i := 1) C10 0 dX5_init_99 rfl rfl ?_
  refine z_iconst (pc := 100) C10 (4 : Int32) dX5_init_100 (by decide) ?_
  refine z_icmp_ge (pc := 101) C10 117 dX5_init_101 (by decide) (fun hc => absurd hc (by decide)) (fun _ => ?_)
  refine z_aload_n (pc := 104) (i := 0) C10 1 dX5_init_104 rfl rfl ?_
  refine z_get (pc := 105) (ci := 5) C10 (.ref (h 15)) bi_X5 rfl 0 14 (by decide) rfl bf_X5_28 rfl rfl dX5_init_105 ?_
  refine z_iload_n (pc := 108) (i := 1) C10 0 dX5_init_108 rfl rfl ?_
  refine z_iconst (pc := 109) C10 (-1 : Int32) dX5_init_109 (by decide) ?_
  refine z_iast (pc := 110) (ws' := wX5 X.cs h s6) C10 7 0 3 rfl rfl (show ¬ ((3 : Int32) < 0 ∨ 4 ≤ (3 : Int32).toNatClampNeg) by decide) (by decide) (by rw [← h6]; rfl) dX5_init_110 ?_
  refine z_iinc (pc := 111) (lv' := [(1, .int 4), (0, .ref (h 0))]) C10 (4 : Int32) 0 dX5_init_111 rfl (by decide) (by decide) rfl ?_
  refine z_goto (pc := 114) C10 99 dX5_init_114 (by decide) ?_
  refine z_iload_n (pc := 99) (i := 1) C10 0 dX5_init_99 rfl rfl ?_
  refine z_iconst (pc := 100) C10 (4 : Int32) dX5_init_100 (by decide) ?_
  refine z_icmp_ge (pc := 101) C10 117 dX5_init_101 (by decide) (fun _ => ?_) (fun hc => absurd (by decide) hc)
  exact z_vretI (pc := 117) C10 hr R (Nat.le_of_ble_eq_true rfl) (Nat.le_of_ble_eq_true rfl) ⟨h, rfl, rfl⟩ dX5_init_117
theorem bb_perm6 (a b c d e f s r : va_W) : List.Perm (a ++ (b ++ (c ++ (d ++ (e ++ (f ++ (s ++ r))))))) (s ++ (a ++ (b ++ (c ++ (d ++ (e ++ (f ++ r))))))) := by
  have h1 : List.Perm (f ++ (s ++ r)) (s ++ (f ++ r)) := List.perm_append_comm_assoc f s r
  have h2 := (h1.append_left e).trans (List.perm_append_comm_assoc e s (f ++ r))
  have h3 := (h2.append_left d).trans (List.perm_append_comm_assoc d s _)
  have h4 := (h3.append_left c).trans (List.perm_append_comm_assoc c s _)
  have h5 := (h4.append_left b).trans (List.perm_append_comm_assoc b s _)
  exact (h5.append_left a).trans (List.perm_append_comm_assoc a s _)
set_option maxHeartbeats 8000000 in
set_option maxRecDepth 100000 in
theorem i_X4 {l : Launch} {D : va_G} {cs : Nat → ClassId} (a : Nat) : bb_MI l yX4_init cX4_init 2 2 49 551 D cs [.ref a] (fun w => ∃ h : Nat → Nat → Nat, h 5 0 = a ∧ List.Perm w (wX4 cs h bb_h0)) [(a, .inr (4, [.null, .null, .null, .null, .null, .int 0, .null, .null]))] := by
  refine bb_mgI (by decide) rfl rfl (Nat.le_of_ble_eq_true rfl) rfl (fun X hl hD hcs hXR C hR hr hnm hE R => ?_)
  subst hl
  subst hD
  subst hcs
  have C0 := C
  refine z_aload_n (pc := 0) (i := 0) C 0 dX4_init_0 rfl rfl ?_
  refine z_obj (pc := 1) C (hR.le (by decide)) bm_X4_1 bw_oi bw_oc (Nat.le_of_ble_eq_true rfl) dX4_init_1 ?_
  refine z_aload_n (pc := 4) (i := 0) C 0 dX4_init_4 rfl rfl ?_
  refine z_new (pc := 5) (ci := 0) (fs := [.int 0, .int 0, .int 0, .int 0, .int 0, .int 0, .int 0, .int 0, .int 0, .null, .null, .null, .null, .null]) C bi_X0 tyX0 tyX0_ok bw_cl_X4_7 bw_in_X0 bw_it_X0 rfl (fun j hj => by match j, hj with | 0, _ => rfl | 1, _ => rfl | 2, _ => rfl | 3, _ => rfl | 4, _ => rfl | 5, _ => rfl | 6, _ => rfl | 7, _ => rfl | 8, _ => rfl | 9, _ => rfl | 10, _ => rfl | 11, _ => rfl | 12, _ => rfl | 13, _ => rfl) (show 0 + 1 ≤ X.R.cells by rw [hXR]; decide) (show 0 + 14 ≤ X.R.slots by rw [hXR]; decide) dX4_init_5 (fun qh0 => ?_)
  have C1 : bb_C (X.kn 1 14) RX4 cX4_init 2 := C0.kn (show 1 ≤ X.R.cells by rw [hXR]; decide) (show 14 ≤ X.R.slots by rw [hXR]; decide)
  show bb_Z (X.kn 1 14) 2 ([(a, .inr (4, [.null, .null, .null, .null, .null, .int 0, .null, .null]))] ++ [(qh0, .inr (0, [.int 0, .int 0, .int 0, .int 0, .int 0, .int 0, .int 0, .int 0, .int 0, .null, .null, .null, .null, .null]))]) 8 [(0, .ref a)] (.ref qh0 :: [.ref a])
  refine z_dup (pc := 8) C1 dX4_init_8 rfl ?_
  refine z_callN (pc := 9) C1 hE (hR.le (by decide)) (i_X0 qh0) bw_ci_X0 hE.1 (Nat.le_of_ble_eq_true rfl) (show 1 + 5 ≤ X.R.cells by rw [hXR]; decide) (show 14 + 30 ≤ X.R.slots by rw [hXR]; decide) dX4_init_9 (fun wc hwc => ?_)
  obtain ⟨h0, rfl, rfl⟩ := hwc
  have C2 : bb_C (X.kn 6 44) RX4 cX4_init 2 := C0.kn (show 6 ≤ X.R.cells by rw [hXR]; decide) (show 44 ≤ X.R.slots by rw [hXR]; decide)
  show bb_Z (X.kn 6 44) 2 ([(a, .inr (4, [.null, .null, .null, .null, .null, .int 0, .null, .null]))] ++ wX0 X.cs h0 bb_c0) 12 [(0, .ref a)] (.ref (h0 0) :: [.ref a])
  refine z_putF (pc := 12) (ci := 4) (ty := .object "BlindBuff$City") (ws' := ([(a, .inr (4, [.ref (h0 0), .null, .null, .null, .null, .int 0, .null, .null]))] ++ wX0 X.cs h0 bb_c0)) C2 hnm bi_X4 tyX4_ok nmX4 rfl 0 0 (by decide) rfl bf_X4_10 rfl rfl rfl rfl rfl (Nat.le_of_ble_eq_true rfl) rfl dX4_init_12 ?_
  refine z_aload_n (pc := 15) (i := 0) C2 0 dX4_init_15 rfl rfl ?_
  refine z_new (pc := 16) (ci := 1) (fs := [.null, .int 0, .int 0]) C2 bi_X1 tyX1 tyX1_ok bw_cl_X4_16 bw_in_X1 bw_it_X1 rfl (fun j hj => by match j, hj with | 0, _ => rfl | 1, _ => rfl | 2, _ => rfl) (show 6 + 1 ≤ X.R.cells by rw [hXR]; decide) (show 44 + 3 ≤ X.R.slots by rw [hXR]; decide) dX4_init_16 (fun qh1 => ?_)
  have C3 : bb_C (X.kn 7 47) RX4 cX4_init 2 := C0.kn (show 7 ≤ X.R.cells by rw [hXR]; decide) (show 47 ≤ X.R.slots by rw [hXR]; decide)
  show bb_Z (X.kn 7 47) 2 (([(a, .inr (4, [.ref (h0 0), .null, .null, .null, .null, .int 0, .null, .null]))] ++ wX0 X.cs h0 bb_c0) ++ [(qh1, .inr (1, [.null, .int 0, .int 0]))]) 19 [(0, .ref a)] (.ref qh1 :: [.ref a])
  refine z_dup (pc := 19) C3 dX4_init_19 rfl ?_
  refine z_callN (pc := 20) C3 hE (hR.le (by decide)) (i_X1 qh1) bw_ci_X1 hE.2.1 (Nat.le_of_ble_eq_true rfl) (show 7 + 9 ≤ X.R.cells by rw [hXR]; decide) (show 47 + 104 ≤ X.R.slots by rw [hXR]; decide) dX4_init_20 (fun wc hwc => ?_)
  obtain ⟨h1, rfl, rfl⟩ := hwc
  have C4 : bb_C (X.kn 16 151) RX4 cX4_init 2 := C0.kn (show 16 ≤ X.R.cells by rw [hXR]; decide) (show 151 ≤ X.R.slots by rw [hXR]; decide)
  show bb_Z (X.kn 16 151) 2 (([(a, .inr (4, [.ref (h0 0), .null, .null, .null, .null, .int 0, .null, .null]))] ++ wX0 X.cs h0 bb_c0) ++ wX1 X.cs h1 bb_o0) 23 [(0, .ref a)] (.ref (h1 0) :: [.ref a])
  refine z_putF (pc := 23) (ci := 4) (ty := .object "BlindBuff$Past") (ws' := (([(a, .inr (4, [.ref (h0 0), .ref (h1 0), .null, .null, .null, .int 0, .null, .null]))] ++ wX0 X.cs h0 bb_c0) ++ wX1 X.cs h1 bb_o0)) C4 hnm bi_X4 tyX4_ok nmX4 rfl 0 1 (by decide) rfl bf_X4_19 rfl rfl rfl rfl rfl (Nat.le_of_ble_eq_true rfl) rfl dX4_init_23 ?_
  refine z_aload_n (pc := 26) (i := 0) C4 0 dX4_init_26 rfl rfl ?_
  refine z_new (pc := 27) (ci := 0) (fs := [.int 0, .int 0, .int 0, .int 0, .int 0, .int 0, .int 0, .int 0, .int 0, .null, .null, .null, .null, .null]) C4 bi_X0 tyX0 tyX0_ok bw_cl_X4_7 bw_in_X0 bw_it_X0 rfl (fun j hj => by match j, hj with | 0, _ => rfl | 1, _ => rfl | 2, _ => rfl | 3, _ => rfl | 4, _ => rfl | 5, _ => rfl | 6, _ => rfl | 7, _ => rfl | 8, _ => rfl | 9, _ => rfl | 10, _ => rfl | 11, _ => rfl | 12, _ => rfl | 13, _ => rfl) (show 16 + 1 ≤ X.R.cells by rw [hXR]; decide) (show 151 + 14 ≤ X.R.slots by rw [hXR]; decide) dX4_init_27 (fun qh2 => ?_)
  have C5 : bb_C (X.kn 17 165) RX4 cX4_init 2 := C0.kn (show 17 ≤ X.R.cells by rw [hXR]; decide) (show 165 ≤ X.R.slots by rw [hXR]; decide)
  show bb_Z (X.kn 17 165) 2 ((([(a, .inr (4, [.ref (h0 0), .ref (h1 0), .null, .null, .null, .int 0, .null, .null]))] ++ wX0 X.cs h0 bb_c0) ++ wX1 X.cs h1 bb_o0) ++ [(qh2, .inr (0, [.int 0, .int 0, .int 0, .int 0, .int 0, .int 0, .int 0, .int 0, .int 0, .null, .null, .null, .null, .null]))]) 30 [(0, .ref a)] (.ref qh2 :: [.ref a])
  refine z_dup (pc := 30) C5 dX4_init_30 rfl ?_
  refine z_callN (pc := 31) C5 hE (hR.le (by decide)) (i_X0 qh2) bw_ci_X0 hE.1 (Nat.le_of_ble_eq_true rfl) (show 17 + 5 ≤ X.R.cells by rw [hXR]; decide) (show 165 + 30 ≤ X.R.slots by rw [hXR]; decide) dX4_init_31 (fun wc hwc => ?_)
  obtain ⟨h2, rfl, rfl⟩ := hwc
  have C6 : bb_C (X.kn 22 195) RX4 cX4_init 2 := C0.kn (show 22 ≤ X.R.cells by rw [hXR]; decide) (show 195 ≤ X.R.slots by rw [hXR]; decide)
  show bb_Z (X.kn 22 195) 2 ((([(a, .inr (4, [.ref (h0 0), .ref (h1 0), .null, .null, .null, .int 0, .null, .null]))] ++ wX0 X.cs h0 bb_c0) ++ wX1 X.cs h1 bb_o0) ++ wX0 X.cs h2 bb_c0) 34 [(0, .ref a)] (.ref (h2 0) :: [.ref a])
  refine z_putF (pc := 34) (ci := 4) (ty := .object "BlindBuff$City") (ws' := ((([(a, .inr (4, [.ref (h0 0), .ref (h1 0), .ref (h2 0), .null, .null, .int 0, .null, .null]))] ++ wX0 X.cs h0 bb_c0) ++ wX1 X.cs h1 bb_o0) ++ wX0 X.cs h2 bb_c0)) C6 hnm bi_X4 tyX4_ok nmX4 rfl 0 2 (by decide) rfl bf_X4_23 rfl rfl rfl rfl rfl (Nat.le_of_ble_eq_true rfl) rfl dX4_init_34 ?_
  refine z_aload_n (pc := 37) (i := 0) C6 0 dX4_init_37 rfl rfl ?_
  refine z_new (pc := 38) (ci := 0) (fs := [.int 0, .int 0, .int 0, .int 0, .int 0, .int 0, .int 0, .int 0, .int 0, .null, .null, .null, .null, .null]) C6 bi_X0 tyX0 tyX0_ok bw_cl_X4_7 bw_in_X0 bw_it_X0 rfl (fun j hj => by match j, hj with | 0, _ => rfl | 1, _ => rfl | 2, _ => rfl | 3, _ => rfl | 4, _ => rfl | 5, _ => rfl | 6, _ => rfl | 7, _ => rfl | 8, _ => rfl | 9, _ => rfl | 10, _ => rfl | 11, _ => rfl | 12, _ => rfl | 13, _ => rfl) (show 22 + 1 ≤ X.R.cells by rw [hXR]; decide) (show 195 + 14 ≤ X.R.slots by rw [hXR]; decide) dX4_init_38 (fun qh3 => ?_)
  have C7 : bb_C (X.kn 23 209) RX4 cX4_init 2 := C0.kn (show 23 ≤ X.R.cells by rw [hXR]; decide) (show 209 ≤ X.R.slots by rw [hXR]; decide)
  show bb_Z (X.kn 23 209) 2 (((([(a, .inr (4, [.ref (h0 0), .ref (h1 0), .ref (h2 0), .null, .null, .int 0, .null, .null]))] ++ wX0 X.cs h0 bb_c0) ++ wX1 X.cs h1 bb_o0) ++ wX0 X.cs h2 bb_c0) ++ [(qh3, .inr (0, [.int 0, .int 0, .int 0, .int 0, .int 0, .int 0, .int 0, .int 0, .int 0, .null, .null, .null, .null, .null]))]) 41 [(0, .ref a)] (.ref qh3 :: [.ref a])
  refine z_dup (pc := 41) C7 dX4_init_41 rfl ?_
  refine z_callN (pc := 42) C7 hE (hR.le (by decide)) (i_X0 qh3) bw_ci_X0 hE.1 (Nat.le_of_ble_eq_true rfl) (show 23 + 5 ≤ X.R.cells by rw [hXR]; decide) (show 209 + 30 ≤ X.R.slots by rw [hXR]; decide) dX4_init_42 (fun wc hwc => ?_)
  obtain ⟨h3, rfl, rfl⟩ := hwc
  have C8 : bb_C (X.kn 28 239) RX4 cX4_init 2 := C0.kn (show 28 ≤ X.R.cells by rw [hXR]; decide) (show 239 ≤ X.R.slots by rw [hXR]; decide)
  show bb_Z (X.kn 28 239) 2 (((([(a, .inr (4, [.ref (h0 0), .ref (h1 0), .ref (h2 0), .null, .null, .int 0, .null, .null]))] ++ wX0 X.cs h0 bb_c0) ++ wX1 X.cs h1 bb_o0) ++ wX0 X.cs h2 bb_c0) ++ wX0 X.cs h3 bb_c0) 45 [(0, .ref a)] (.ref (h3 0) :: [.ref a])
  refine z_putF (pc := 45) (ci := 4) (ty := .object "BlindBuff$City") (ws' := (((([(a, .inr (4, [.ref (h0 0), .ref (h1 0), .ref (h2 0), .ref (h3 0), .null, .int 0, .null, .null]))] ++ wX0 X.cs h0 bb_c0) ++ wX1 X.cs h1 bb_o0) ++ wX0 X.cs h2 bb_c0) ++ wX0 X.cs h3 bb_c0)) C8 hnm bi_X4 tyX4_ok nmX4 rfl 0 3 (by decide) rfl bf_X4_26 rfl rfl rfl rfl rfl (Nat.le_of_ble_eq_true rfl) rfl dX4_init_45 ?_
  refine z_aload_n (pc := 48) (i := 0) C8 0 dX4_init_48 rfl rfl ?_
  refine z_new (pc := 49) (ci := 1) (fs := [.null, .int 0, .int 0]) C8 bi_X1 tyX1 tyX1_ok bw_cl_X4_16 bw_in_X1 bw_it_X1 rfl (fun j hj => by match j, hj with | 0, _ => rfl | 1, _ => rfl | 2, _ => rfl) (show 28 + 1 ≤ X.R.cells by rw [hXR]; decide) (show 239 + 3 ≤ X.R.slots by rw [hXR]; decide) dX4_init_49 (fun qh4 => ?_)
  have C9 : bb_C (X.kn 29 242) RX4 cX4_init 2 := C0.kn (show 29 ≤ X.R.cells by rw [hXR]; decide) (show 242 ≤ X.R.slots by rw [hXR]; decide)
  show bb_Z (X.kn 29 242) 2 ((((([(a, .inr (4, [.ref (h0 0), .ref (h1 0), .ref (h2 0), .ref (h3 0), .null, .int 0, .null, .null]))] ++ wX0 X.cs h0 bb_c0) ++ wX1 X.cs h1 bb_o0) ++ wX0 X.cs h2 bb_c0) ++ wX0 X.cs h3 bb_c0) ++ [(qh4, .inr (1, [.null, .int 0, .int 0]))]) 52 [(0, .ref a)] (.ref qh4 :: [.ref a])
  refine z_dup (pc := 52) C9 dX4_init_52 rfl ?_
  refine z_callN (pc := 53) C9 hE (hR.le (by decide)) (i_X1 qh4) bw_ci_X1 hE.2.1 (Nat.le_of_ble_eq_true rfl) (show 29 + 9 ≤ X.R.cells by rw [hXR]; decide) (show 242 + 104 ≤ X.R.slots by rw [hXR]; decide) dX4_init_53 (fun wc hwc => ?_)
  obtain ⟨h4, rfl, rfl⟩ := hwc
  have C10 : bb_C (X.kn 38 346) RX4 cX4_init 2 := C0.kn (show 38 ≤ X.R.cells by rw [hXR]; decide) (show 346 ≤ X.R.slots by rw [hXR]; decide)
  show bb_Z (X.kn 38 346) 2 ((((([(a, .inr (4, [.ref (h0 0), .ref (h1 0), .ref (h2 0), .ref (h3 0), .null, .int 0, .null, .null]))] ++ wX0 X.cs h0 bb_c0) ++ wX1 X.cs h1 bb_o0) ++ wX0 X.cs h2 bb_c0) ++ wX0 X.cs h3 bb_c0) ++ wX1 X.cs h4 bb_o0) 56 [(0, .ref a)] (.ref (h4 0) :: [.ref a])
  refine z_putF (pc := 56) (ci := 4) (ty := .object "BlindBuff$Past") (ws' := ((((([(a, .inr (4, [.ref (h0 0), .ref (h1 0), .ref (h2 0), .ref (h3 0), .ref (h4 0), .int 0, .null, .null]))] ++ wX0 X.cs h0 bb_c0) ++ wX1 X.cs h1 bb_o0) ++ wX0 X.cs h2 bb_c0) ++ wX0 X.cs h3 bb_c0) ++ wX1 X.cs h4 bb_o0)) C10 hnm bi_X4 tyX4_ok nmX4 rfl 0 4 (by decide) rfl bf_X4_29 rfl rfl rfl rfl rfl (Nat.le_of_ble_eq_true rfl) rfl dX4_init_56 ?_
  refine z_aload_n (pc := 59) (i := 0) C10 0 dX4_init_59 rfl rfl ?_
  refine z_new (pc := 60) (ci := 3) (fs := [.null, .int 0, .int 0]) C10 bi_X3 tyX3 tyX3_ok bw_cl_X4_32 bw_in_X3 bw_it_X3 rfl (fun j hj => by match j, hj with | 0, _ => rfl | 1, _ => rfl | 2, _ => rfl) (show 38 + 1 ≤ X.R.cells by rw [hXR]; decide) (show 346 + 3 ≤ X.R.slots by rw [hXR]; decide) dX4_init_60 (fun qh6 => ?_)
  have C11 : bb_C (X.kn 39 349) RX4 cX4_init 2 := C0.kn (show 39 ≤ X.R.cells by rw [hXR]; decide) (show 349 ≤ X.R.slots by rw [hXR]; decide)
  show bb_Z (X.kn 39 349) 2 (((((([(a, .inr (4, [.ref (h0 0), .ref (h1 0), .ref (h2 0), .ref (h3 0), .ref (h4 0), .int 0, .null, .null]))] ++ wX0 X.cs h0 bb_c0) ++ wX1 X.cs h1 bb_o0) ++ wX0 X.cs h2 bb_c0) ++ wX0 X.cs h3 bb_c0) ++ wX1 X.cs h4 bb_o0) ++ [(qh6, .inr (3, [.null, .int 0, .int 0]))]) 63 [(0, .ref a)] (.ref qh6 :: [.ref a])
  refine z_dup (pc := 63) C11 dX4_init_63 rfl ?_
  refine z_callN (pc := 64) C11 hE (hR.le (by decide)) (i_X3 qh6) bw_ci_X3 hE.2.2.1 (Nat.le_of_ble_eq_true rfl) (show 39 + 1 ≤ X.R.cells by rw [hXR]; decide) (show 349 + 90 ≤ X.R.slots by rw [hXR]; decide) dX4_init_64 (fun wc hwc => ?_)
  obtain ⟨h6, rfl, rfl⟩ := hwc
  have C12 : bb_C (X.kn 40 439) RX4 cX4_init 2 := C0.kn (show 40 ≤ X.R.cells by rw [hXR]; decide) (show 439 ≤ X.R.slots by rw [hXR]; decide)
  show bb_Z (X.kn 40 439) 2 (((((([(a, .inr (4, [.ref (h0 0), .ref (h1 0), .ref (h2 0), .ref (h3 0), .ref (h4 0), .int 0, .null, .null]))] ++ wX0 X.cs h0 bb_c0) ++ wX1 X.cs h1 bb_o0) ++ wX0 X.cs h2 bb_c0) ++ wX0 X.cs h3 bb_c0) ++ wX1 X.cs h4 bb_o0) ++ wX3 X.cs h6 bb_o0) 67 [(0, .ref a)] (.ref (h6 0) :: [.ref a])
  refine z_putF (pc := 67) (ci := 4) (ty := .object "BlindBuff$Tape") (ws' := (((((([(a, .inr (4, [.ref (h0 0), .ref (h1 0), .ref (h2 0), .ref (h3 0), .ref (h4 0), .int 0, .ref (h6 0), .null]))] ++ wX0 X.cs h0 bb_c0) ++ wX1 X.cs h1 bb_o0) ++ wX0 X.cs h2 bb_c0) ++ wX0 X.cs h3 bb_c0) ++ wX1 X.cs h4 bb_o0) ++ wX3 X.cs h6 bb_o0)) C12 hnm bi_X4 tyX4_ok nmX4 rfl 0 6 (by decide) rfl bf_X4_35 rfl rfl rfl rfl rfl (Nat.le_of_ble_eq_true rfl) rfl dX4_init_67 ?_
  refine z_aload_n (pc := 70) (i := 0) C12 0 dX4_init_70 rfl rfl ?_
  refine z_iconst (pc := 71) C12 (4 : Int32) dX4_init_71 (by decide) ?_
  refine z_newq (pc := 72) (N := 4) C12 bw_cl_X4_39 hE.2.2.2.2.1 (by decide) (by decide) (by decide) (show 40 + 1 ≤ X.R.cells by rw [hXR]; decide) (show 439 + 4 ≤ X.R.slots by rw [hXR]; decide) dX4_init_72 (fun qs => ?_)
  have C13 : bb_C (X.kn 41 443) RX4 cX4_init 2 := C0.kn (show 41 ≤ X.R.cells by rw [hXR]; decide) (show 443 ≤ X.R.slots by rw [hXR]; decide)
  show bb_Z (X.kn 41 443) 2 ((((((([(a, .inr (4, [.ref (h0 0), .ref (h1 0), .ref (h2 0), .ref (h3 0), .ref (h4 0), .int 0, .ref (h6 0), .null]))] ++ wX0 X.cs h0 bb_c0) ++ wX1 X.cs h1 bb_o0) ++ wX0 X.cs h2 bb_c0) ++ wX0 X.cs h3 bb_c0) ++ wX1 X.cs h4 bb_o0) ++ wX3 X.cs h6 bb_o0) ++ [(qs, .inl (X.cs 4, 4, .inr (.inr (.inr (.inr (fun _ => none))))))]) 75 [(0, .ref a)] [.ref qs, .ref a]
  refine z_putF (pc := 75) (ci := 4) (ty := .array (.object "BlindBuff$Row")) (ws' := ((((((([(a, .inr (4, [.ref (h0 0), .ref (h1 0), .ref (h2 0), .ref (h3 0), .ref (h4 0), .int 0, .ref (h6 0), .ref qs]))] ++ wX0 X.cs h0 bb_c0) ++ wX1 X.cs h1 bb_o0) ++ wX0 X.cs h2 bb_c0) ++ wX0 X.cs h3 bb_c0) ++ wX1 X.cs h4 bb_o0) ++ wX3 X.cs h6 bb_o0) ++ [(qs, .inl (X.cs 4, 4, .inr (.inr (.inr (.inr (fun _ => none))))))])) C13 hnm bi_X4 tyX4_ok nmX4 rfl 0 7 (by decide) rfl bf_X4_41 rfl rfl rfl rfl rfl (Nat.le_of_ble_eq_true rfl) rfl dX4_init_75 ?_
  refine z_iconst (pc := 78) C13 (0 : Int32) dX4_init_78 (by decide) ?_
  refine z_istore_n (pc := 79) (i := 1) (lv' := [(1, .int 0), (0, .ref a)]) C13 dX4_init_79 rfl (by decide) rfl ?_
  refine z_iload_n (pc := 80) (i := 1) C13 0 dX4_init_80 rfl rfl ?_
  refine z_iconst (pc := 81) C13 (4 : Int32) dX4_init_81 (by decide) ?_
  refine z_icmp_ge (pc := 82) C13 104 dX4_init_82 (by decide) (fun hc => absurd hc (by decide)) (fun _ => ?_)
  refine z_aload_n (pc := 85) (i := 0) C13 1 dX4_init_85 rfl rfl ?_
  refine z_get (pc := 86) (ci := 4) C13 (.ref qs) bi_X4 rfl 0 7 (by decide) rfl bf_X4_41 rfl rfl dX4_init_86 ?_
  refine z_iload_n (pc := 89) (i := 1) C13 0 dX4_init_89 rfl rfl ?_
  refine z_new (pc := 90) (ci := 2) (fs := [.int 0, .int 0, .null]) C13 bi_X2 tyX2 tyX2_ok bw_cl_X4_39 bw_in_X2 bw_it_X2 rfl (fun j hj => by match j, hj with | 0, _ => rfl | 1, _ => rfl | 2, _ => rfl) (show 41 + 1 ≤ X.R.cells by rw [hXR]; decide) (show 443 + 3 ≤ X.R.slots by rw [hXR]; decide) dX4_init_90 (fun qh7 => ?_)
  have C14 : bb_C (X.kn 42 446) RX4 cX4_init 2 := C0.kn (show 42 ≤ X.R.cells by rw [hXR]; decide) (show 446 ≤ X.R.slots by rw [hXR]; decide)
  show bb_Z (X.kn 42 446) 2 (((((((([(a, .inr (4, [.ref (h0 0), .ref (h1 0), .ref (h2 0), .ref (h3 0), .ref (h4 0), .int 0, .ref (h6 0), .ref qs]))] ++ wX0 X.cs h0 bb_c0) ++ wX1 X.cs h1 bb_o0) ++ wX0 X.cs h2 bb_c0) ++ wX0 X.cs h3 bb_c0) ++ wX1 X.cs h4 bb_o0) ++ wX3 X.cs h6 bb_o0) ++ [(qs, .inl (X.cs 4, 4, .inr (.inr (.inr (.inr (fun _ => none))))))]) ++ [(qh7, .inr (2, [.int 0, .int 0, .null]))]) 93 [(1, .int 0), (0, .ref a)] (.ref qh7 :: [.int 0, .ref qs])
  refine z_dup (pc := 93) C14 dX4_init_93 rfl ?_
  refine z_callN (pc := 94) C14 hE (hR.le (by decide)) (i_X2 qh7) bw_ci_X2 hE.2.2.2.1 (Nat.le_of_ble_eq_true rfl) (show 42 + 1 ≤ X.R.cells by rw [hXR]; decide) (show 446 + 24 ≤ X.R.slots by rw [hXR]; decide) dX4_init_94 (fun wc hwc => ?_)
  obtain ⟨h7, rfl, rfl⟩ := hwc
  have C15 : bb_C (X.kn 43 470) RX4 cX4_init 2 := C0.kn (show 43 ≤ X.R.cells by rw [hXR]; decide) (show 470 ≤ X.R.slots by rw [hXR]; decide)
  show bb_Z (X.kn 43 470) 2 (((((((([(a, .inr (4, [.ref (h0 0), .ref (h1 0), .ref (h2 0), .ref (h3 0), .ref (h4 0), .int 0, .ref (h6 0), .ref qs]))] ++ wX0 X.cs h0 bb_c0) ++ wX1 X.cs h1 bb_o0) ++ wX0 X.cs h2 bb_c0) ++ wX0 X.cs h3 bb_c0) ++ wX1 X.cs h4 bb_o0) ++ wX3 X.cs h6 bb_o0) ++ [(qs, .inl (X.cs 4, 4, .inr (.inr (.inr (.inr (fun _ => none))))))]) ++ wX2 X.cs h7 bb_r0) 97 [(1, .int 0), (0, .ref a)] (.ref (h7 0) :: [.int 0, .ref qs])
  refine z_aast (pc := 97) (ci := 2) (r := (RX2, TX2, 3)) (ws' := (((((((([(a, .inr (4, [.ref (h0 0), .ref (h1 0), .ref (h2 0), .ref (h3 0), .ref (h4 0), .int 0, .ref (h6 0), .ref qs]))] ++ wX0 X.cs h0 bb_c0) ++ wX1 X.cs h1 bb_o0) ++ wX0 X.cs h2 bb_c0) ++ wX0 X.cs h3 bb_c0) ++ wX1 X.cs h4 bb_o0) ++ wX3 X.cs h6 bb_o0) ++ [(qs, .inl (X.cs 4, 4, .inr (.inr (.inr (.inr (va_up (fun _ => none) 0 (some (h7 0))))))))]) ++ wX2 X.cs h7 bb_r0)) C15 41 4 42 0 rfl rfl rfl rfl (show ¬ ((0 : Int32) < 0 ∨ 4 ≤ (0 : Int32).toNatClampNeg) by decide) (by decide) rfl dX4_init_97 ?_
  refine z_iinc (pc := 98) (lv' := [(1, .int 1), (0, .ref a)]) C15 (1 : Int32) 0 dX4_init_98 rfl (by decide) (by decide) rfl ?_
  refine z_goto (pc := 101) C15 80 dX4_init_101 (by decide) ?_
  refine z_iload_n (pc := 80) (i := 1) C15 0 dX4_init_80 rfl rfl ?_
  refine z_iconst (pc := 81) C15 (4 : Int32) dX4_init_81 (by decide) ?_
  refine z_icmp_ge (pc := 82) C15 104 dX4_init_82 (by decide) (fun hc => absurd hc (by decide)) (fun _ => ?_)
  refine z_aload_n (pc := 85) (i := 0) C15 1 dX4_init_85 rfl rfl ?_
  refine z_get (pc := 86) (ci := 4) C15 (.ref qs) bi_X4 rfl 0 7 (by decide) rfl bf_X4_41 rfl rfl dX4_init_86 ?_
  refine z_iload_n (pc := 89) (i := 1) C15 0 dX4_init_89 rfl rfl ?_
  refine z_new (pc := 90) (ci := 2) (fs := [.int 0, .int 0, .null]) C15 bi_X2 tyX2 tyX2_ok bw_cl_X4_39 bw_in_X2 bw_it_X2 rfl (fun j hj => by match j, hj with | 0, _ => rfl | 1, _ => rfl | 2, _ => rfl) (show 43 + 1 ≤ X.R.cells by rw [hXR]; decide) (show 470 + 3 ≤ X.R.slots by rw [hXR]; decide) dX4_init_90 (fun qh8 => ?_)
  have C16 : bb_C (X.kn 44 473) RX4 cX4_init 2 := C0.kn (show 44 ≤ X.R.cells by rw [hXR]; decide) (show 473 ≤ X.R.slots by rw [hXR]; decide)
  show bb_Z (X.kn 44 473) 2 ((((((((([(a, .inr (4, [.ref (h0 0), .ref (h1 0), .ref (h2 0), .ref (h3 0), .ref (h4 0), .int 0, .ref (h6 0), .ref qs]))] ++ wX0 X.cs h0 bb_c0) ++ wX1 X.cs h1 bb_o0) ++ wX0 X.cs h2 bb_c0) ++ wX0 X.cs h3 bb_c0) ++ wX1 X.cs h4 bb_o0) ++ wX3 X.cs h6 bb_o0) ++ [(qs, .inl (X.cs 4, 4, .inr (.inr (.inr (.inr (va_up (fun _ => none) 0 (some (h7 0))))))))]) ++ wX2 X.cs h7 bb_r0) ++ [(qh8, .inr (2, [.int 0, .int 0, .null]))]) 93 [(1, .int 1), (0, .ref a)] (.ref qh8 :: [.int 1, .ref qs])
  refine z_dup (pc := 93) C16 dX4_init_93 rfl ?_
  refine z_callN (pc := 94) C16 hE (hR.le (by decide)) (i_X2 qh8) bw_ci_X2 hE.2.2.2.1 (Nat.le_of_ble_eq_true rfl) (show 44 + 1 ≤ X.R.cells by rw [hXR]; decide) (show 473 + 24 ≤ X.R.slots by rw [hXR]; decide) dX4_init_94 (fun wc hwc => ?_)
  obtain ⟨h8, rfl, rfl⟩ := hwc
  have C17 : bb_C (X.kn 45 497) RX4 cX4_init 2 := C0.kn (show 45 ≤ X.R.cells by rw [hXR]; decide) (show 497 ≤ X.R.slots by rw [hXR]; decide)
  show bb_Z (X.kn 45 497) 2 ((((((((([(a, .inr (4, [.ref (h0 0), .ref (h1 0), .ref (h2 0), .ref (h3 0), .ref (h4 0), .int 0, .ref (h6 0), .ref qs]))] ++ wX0 X.cs h0 bb_c0) ++ wX1 X.cs h1 bb_o0) ++ wX0 X.cs h2 bb_c0) ++ wX0 X.cs h3 bb_c0) ++ wX1 X.cs h4 bb_o0) ++ wX3 X.cs h6 bb_o0) ++ [(qs, .inl (X.cs 4, 4, .inr (.inr (.inr (.inr (va_up (fun _ => none) 0 (some (h7 0))))))))]) ++ wX2 X.cs h7 bb_r0) ++ wX2 X.cs h8 bb_r0) 97 [(1, .int 1), (0, .ref a)] (.ref (h8 0) :: [.int 1, .ref qs])
  refine z_aast (pc := 97) (ci := 2) (r := (RX2, TX2, 3)) (ws' := ((((((((([(a, .inr (4, [.ref (h0 0), .ref (h1 0), .ref (h2 0), .ref (h3 0), .ref (h4 0), .int 0, .ref (h6 0), .ref qs]))] ++ wX0 X.cs h0 bb_c0) ++ wX1 X.cs h1 bb_o0) ++ wX0 X.cs h2 bb_c0) ++ wX0 X.cs h3 bb_c0) ++ wX1 X.cs h4 bb_o0) ++ wX3 X.cs h6 bb_o0) ++ [(qs, .inl (X.cs 4, 4, .inr (.inr (.inr (.inr (va_up (va_up (fun _ => none) 0 (some (h7 0))) 1 (some (h8 0))))))))]) ++ wX2 X.cs h7 bb_r0) ++ wX2 X.cs h8 bb_r0)) C17 41 4 44 1 rfl rfl rfl rfl (show ¬ ((1 : Int32) < 0 ∨ 4 ≤ (1 : Int32).toNatClampNeg) by decide) (by decide) rfl dX4_init_97 ?_
  refine z_iinc (pc := 98) (lv' := [(1, .int 2), (0, .ref a)]) C17 (2 : Int32) 0 dX4_init_98 rfl (by decide) (by decide) rfl ?_
  refine z_goto (pc := 101) C17 80 dX4_init_101 (by decide) ?_
  refine z_iload_n (pc := 80) (i := 1) C17 0 dX4_init_80 rfl rfl ?_
  refine z_iconst (pc := 81) C17 (4 : Int32) dX4_init_81 (by decide) ?_
  refine z_icmp_ge (pc := 82) C17 104 dX4_init_82 (by decide) (fun hc => absurd hc (by decide)) (fun _ => ?_)
  refine z_aload_n (pc := 85) (i := 0) C17 1 dX4_init_85 rfl rfl ?_
  refine z_get (pc := 86) (ci := 4) C17 (.ref qs) bi_X4 rfl 0 7 (by decide) rfl bf_X4_41 rfl rfl dX4_init_86 ?_
  refine z_iload_n (pc := 89) (i := 1) C17 0 dX4_init_89 rfl rfl ?_
  refine z_new (pc := 90) (ci := 2) (fs := [.int 0, .int 0, .null]) C17 bi_X2 tyX2 tyX2_ok bw_cl_X4_39 bw_in_X2 bw_it_X2 rfl (fun j hj => by match j, hj with | 0, _ => rfl | 1, _ => rfl | 2, _ => rfl) (show 45 + 1 ≤ X.R.cells by rw [hXR]; decide) (show 497 + 3 ≤ X.R.slots by rw [hXR]; decide) dX4_init_90 (fun qh9 => ?_)
  have C18 : bb_C (X.kn 46 500) RX4 cX4_init 2 := C0.kn (show 46 ≤ X.R.cells by rw [hXR]; decide) (show 500 ≤ X.R.slots by rw [hXR]; decide)
  show bb_Z (X.kn 46 500) 2 (((((((((([(a, .inr (4, [.ref (h0 0), .ref (h1 0), .ref (h2 0), .ref (h3 0), .ref (h4 0), .int 0, .ref (h6 0), .ref qs]))] ++ wX0 X.cs h0 bb_c0) ++ wX1 X.cs h1 bb_o0) ++ wX0 X.cs h2 bb_c0) ++ wX0 X.cs h3 bb_c0) ++ wX1 X.cs h4 bb_o0) ++ wX3 X.cs h6 bb_o0) ++ [(qs, .inl (X.cs 4, 4, .inr (.inr (.inr (.inr (va_up (va_up (fun _ => none) 0 (some (h7 0))) 1 (some (h8 0))))))))]) ++ wX2 X.cs h7 bb_r0) ++ wX2 X.cs h8 bb_r0) ++ [(qh9, .inr (2, [.int 0, .int 0, .null]))]) 93 [(1, .int 2), (0, .ref a)] (.ref qh9 :: [.int 2, .ref qs])
  refine z_dup (pc := 93) C18 dX4_init_93 rfl ?_
  refine z_callN (pc := 94) C18 hE (hR.le (by decide)) (i_X2 qh9) bw_ci_X2 hE.2.2.2.1 (Nat.le_of_ble_eq_true rfl) (show 46 + 1 ≤ X.R.cells by rw [hXR]; decide) (show 500 + 24 ≤ X.R.slots by rw [hXR]; decide) dX4_init_94 (fun wc hwc => ?_)
  obtain ⟨h9, rfl, rfl⟩ := hwc
  have C19 : bb_C (X.kn 47 524) RX4 cX4_init 2 := C0.kn (show 47 ≤ X.R.cells by rw [hXR]; decide) (show 524 ≤ X.R.slots by rw [hXR]; decide)
  show bb_Z (X.kn 47 524) 2 (((((((((([(a, .inr (4, [.ref (h0 0), .ref (h1 0), .ref (h2 0), .ref (h3 0), .ref (h4 0), .int 0, .ref (h6 0), .ref qs]))] ++ wX0 X.cs h0 bb_c0) ++ wX1 X.cs h1 bb_o0) ++ wX0 X.cs h2 bb_c0) ++ wX0 X.cs h3 bb_c0) ++ wX1 X.cs h4 bb_o0) ++ wX3 X.cs h6 bb_o0) ++ [(qs, .inl (X.cs 4, 4, .inr (.inr (.inr (.inr (va_up (va_up (fun _ => none) 0 (some (h7 0))) 1 (some (h8 0))))))))]) ++ wX2 X.cs h7 bb_r0) ++ wX2 X.cs h8 bb_r0) ++ wX2 X.cs h9 bb_r0) 97 [(1, .int 2), (0, .ref a)] (.ref (h9 0) :: [.int 2, .ref qs])
  refine z_aast (pc := 97) (ci := 2) (r := (RX2, TX2, 3)) (ws' := (((((((((([(a, .inr (4, [.ref (h0 0), .ref (h1 0), .ref (h2 0), .ref (h3 0), .ref (h4 0), .int 0, .ref (h6 0), .ref qs]))] ++ wX0 X.cs h0 bb_c0) ++ wX1 X.cs h1 bb_o0) ++ wX0 X.cs h2 bb_c0) ++ wX0 X.cs h3 bb_c0) ++ wX1 X.cs h4 bb_o0) ++ wX3 X.cs h6 bb_o0) ++ [(qs, .inl (X.cs 4, 4, .inr (.inr (.inr (.inr (va_up (va_up (va_up (fun _ => none) 0 (some (h7 0))) 1 (some (h8 0))) 2 (some (h9 0))))))))]) ++ wX2 X.cs h7 bb_r0) ++ wX2 X.cs h8 bb_r0) ++ wX2 X.cs h9 bb_r0)) C19 41 4 46 2 rfl rfl rfl rfl (show ¬ ((2 : Int32) < 0 ∨ 4 ≤ (2 : Int32).toNatClampNeg) by decide) (by decide) rfl dX4_init_97 ?_
  refine z_iinc (pc := 98) (lv' := [(1, .int 3), (0, .ref a)]) C19 (3 : Int32) 0 dX4_init_98 rfl (by decide) (by decide) rfl ?_
  refine z_goto (pc := 101) C19 80 dX4_init_101 (by decide) ?_
  refine z_iload_n (pc := 80) (i := 1) C19 0 dX4_init_80 rfl rfl ?_
  refine z_iconst (pc := 81) C19 (4 : Int32) dX4_init_81 (by decide) ?_
  refine z_icmp_ge (pc := 82) C19 104 dX4_init_82 (by decide) (fun hc => absurd hc (by decide)) (fun _ => ?_)
  refine z_aload_n (pc := 85) (i := 0) C19 1 dX4_init_85 rfl rfl ?_
  refine z_get (pc := 86) (ci := 4) C19 (.ref qs) bi_X4 rfl 0 7 (by decide) rfl bf_X4_41 rfl rfl dX4_init_86 ?_
  refine z_iload_n (pc := 89) (i := 1) C19 0 dX4_init_89 rfl rfl ?_
  refine z_new (pc := 90) (ci := 2) (fs := [.int 0, .int 0, .null]) C19 bi_X2 tyX2 tyX2_ok bw_cl_X4_39 bw_in_X2 bw_it_X2 rfl (fun j hj => by match j, hj with | 0, _ => rfl | 1, _ => rfl | 2, _ => rfl) (show 47 + 1 ≤ X.R.cells by rw [hXR]; decide) (show 524 + 3 ≤ X.R.slots by rw [hXR]; decide) dX4_init_90 (fun qh10 => ?_)
  have C20 : bb_C (X.kn 48 527) RX4 cX4_init 2 := C0.kn (show 48 ≤ X.R.cells by rw [hXR]; decide) (show 527 ≤ X.R.slots by rw [hXR]; decide)
  show bb_Z (X.kn 48 527) 2 ((((((((((([(a, .inr (4, [.ref (h0 0), .ref (h1 0), .ref (h2 0), .ref (h3 0), .ref (h4 0), .int 0, .ref (h6 0), .ref qs]))] ++ wX0 X.cs h0 bb_c0) ++ wX1 X.cs h1 bb_o0) ++ wX0 X.cs h2 bb_c0) ++ wX0 X.cs h3 bb_c0) ++ wX1 X.cs h4 bb_o0) ++ wX3 X.cs h6 bb_o0) ++ [(qs, .inl (X.cs 4, 4, .inr (.inr (.inr (.inr (va_up (va_up (va_up (fun _ => none) 0 (some (h7 0))) 1 (some (h8 0))) 2 (some (h9 0))))))))]) ++ wX2 X.cs h7 bb_r0) ++ wX2 X.cs h8 bb_r0) ++ wX2 X.cs h9 bb_r0) ++ [(qh10, .inr (2, [.int 0, .int 0, .null]))]) 93 [(1, .int 3), (0, .ref a)] (.ref qh10 :: [.int 3, .ref qs])
  refine z_dup (pc := 93) C20 dX4_init_93 rfl ?_
  refine z_callN (pc := 94) C20 hE (hR.le (by decide)) (i_X2 qh10) bw_ci_X2 hE.2.2.2.1 (Nat.le_of_ble_eq_true rfl) (show 48 + 1 ≤ X.R.cells by rw [hXR]; decide) (show 527 + 24 ≤ X.R.slots by rw [hXR]; decide) dX4_init_94 (fun wc hwc => ?_)
  obtain ⟨h10, rfl, rfl⟩ := hwc
  have C21 : bb_C (X.kn 49 551) RX4 cX4_init 2 := C0.kn (show 49 ≤ X.R.cells by rw [hXR]; decide) (show 551 ≤ X.R.slots by rw [hXR]; decide)
  show bb_Z (X.kn 49 551) 2 ((((((((((([(a, .inr (4, [.ref (h0 0), .ref (h1 0), .ref (h2 0), .ref (h3 0), .ref (h4 0), .int 0, .ref (h6 0), .ref qs]))] ++ wX0 X.cs h0 bb_c0) ++ wX1 X.cs h1 bb_o0) ++ wX0 X.cs h2 bb_c0) ++ wX0 X.cs h3 bb_c0) ++ wX1 X.cs h4 bb_o0) ++ wX3 X.cs h6 bb_o0) ++ [(qs, .inl (X.cs 4, 4, .inr (.inr (.inr (.inr (va_up (va_up (va_up (fun _ => none) 0 (some (h7 0))) 1 (some (h8 0))) 2 (some (h9 0))))))))]) ++ wX2 X.cs h7 bb_r0) ++ wX2 X.cs h8 bb_r0) ++ wX2 X.cs h9 bb_r0) ++ wX2 X.cs h10 bb_r0) 97 [(1, .int 3), (0, .ref a)] (.ref (h10 0) :: [.int 3, .ref qs])
  refine z_aast (pc := 97) (ci := 2) (r := (RX2, TX2, 3)) (ws' := ((((((((((([(a, .inr (4, [.ref (h0 0), .ref (h1 0), .ref (h2 0), .ref (h3 0), .ref (h4 0), .int 0, .ref (h6 0), .ref qs]))] ++ wX0 X.cs h0 bb_c0) ++ wX1 X.cs h1 bb_o0) ++ wX0 X.cs h2 bb_c0) ++ wX0 X.cs h3 bb_c0) ++ wX1 X.cs h4 bb_o0) ++ wX3 X.cs h6 bb_o0) ++ [(qs, .inl (X.cs 4, 4, .inr (.inr (.inr (.inr (va_up (va_up (va_up (va_up (fun _ => none) 0 (some (h7 0))) 1 (some (h8 0))) 2 (some (h9 0))) 3 (some (h10 0))))))))]) ++ wX2 X.cs h7 bb_r0) ++ wX2 X.cs h8 bb_r0) ++ wX2 X.cs h9 bb_r0) ++ wX2 X.cs h10 bb_r0)) C21 41 4 48 3 rfl rfl rfl rfl (show ¬ ((3 : Int32) < 0 ∨ 4 ≤ (3 : Int32).toNatClampNeg) by decide) (by decide) rfl dX4_init_97 ?_
  refine z_iinc (pc := 98) (lv' := [(1, .int 4), (0, .ref a)]) C21 (4 : Int32) 0 dX4_init_98 rfl (by decide) (by decide) rfl ?_
  refine z_goto (pc := 101) C21 80 dX4_init_101 (by decide) ?_
  refine z_iload_n (pc := 80) (i := 1) C21 0 dX4_init_80 rfl rfl ?_
  refine z_iconst (pc := 81) C21 (4 : Int32) dX4_init_81 (by decide) ?_
  refine z_icmp_ge (pc := 82) C21 104 dX4_init_82 (by decide) (fun _ => ?_) (fun hc => absurd (by decide) hc)
  have e : (va_up (va_up (va_up (va_up (fun _ => none) 0 (some (h7 0))) 1 (some (h8 0))) 2 (some (h9 0))) 3 (some (h10 0))) = (fun i => if i < 4 then some ((fun c => if c = 0 then h0 else if c = 1 then h1 else if c = 2 then h2 else if c = 3 then h3 else if c = 4 then h4 else if c = 5 then (fun i => if i = 8 then qs else a) else if c = 6 then h6 else if c = 7 then h7 else if c = 8 then h8 else if c = 9 then h9 else h10) (7 + i) 0) else none) := by
    funext i
    match i with
    | 0 => rfl
    | 1 => rfl
    | 2 => rfl
    | 3 => rfl
    | i + 4 => simp [va_up]
  refine z_vretI (pc := 104) C21 hr R (Nat.le_of_ble_eq_true rfl) (Nat.le_of_ble_eq_true rfl) ⟨(fun c => if c = 0 then h0 else if c = 1 then h1 else if c = 2 then h2 else if c = 3 then h3 else if c = 4 then h4 else if c = 5 then (fun i => if i = 8 then qs else a) else if c = 6 then h6 else if c = 7 then h7 else if c = 8 then h8 else if c = 9 then h9 else h10), rfl, ?_⟩ dX4_init_104
  rw [e]
  simp only [List.append_assoc]
  exact List.Perm.append_left _ (bb_perm6 (wX0 X.cs h0 bb_c0) (wX1 X.cs h1 bb_o0) (wX0 X.cs h2 bb_c0) (wX0 X.cs h3 bb_c0) (wX1 X.cs h4 bb_o0) (wX3 X.cs h6 bb_o0) [(qs, .inl (X.cs 4, 4, .inr (.inr (.inr (.inr (fun i => if i < 4 then some ((fun c => if c = 0 then h0 else if c = 1 then h1 else if c = 2 then h2 else if c = 3 then h3 else if c = 4 then h4 else if c = 5 then (fun i => if i = 8 then qs else a) else if c = 6 then h6 else if c = 7 then h7 else if c = 8 then h8 else if c = 9 then h9 else h10) (7 + i) 0) else none))))))] (wX2 X.cs h7 bb_r0 ++ (wX2 X.cs h8 bb_r0 ++ (wX2 X.cs h9 bb_r0 ++ wX2 X.cs h10 bb_r0))))
