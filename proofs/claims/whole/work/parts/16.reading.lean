/-! J0_isLatin1_aae02: reads, level 1 -/
noncomputable def F_J0_isLatin1_aae02_18 (y0 : Int32) : Option Int32 := bb_g (bb_z y0) (some y0)
set_option maxHeartbeats 4000000 in
set_option maxRecDepth 100000 in
theorem B_J0_isLatin1_aae02_18 {X : bb_X} (C : bb_C X RJ0 cJ0_isLatin1_aae02 1) (hR : bb_r X 1) (hr : X.meth.sig.returnType = (some .boolean)) (a b : Nat) (hE : bb_S a b X.A X.s X.s.heap) {z : Int32} (R : bb_R X (some (.int z)) ([])) {y0 : Int32} (hf : F_J0_isLatin1_aae02_18 y0 = some z) : bb_Z X 1 ([]) 18 [] [.int y0] := by
  obtain ⟨hz1, hf⟩ := bb_g_some hf
  obtain rfl := Option.some.inj hf
  exact z_zret (pc := 18) C hr (bb_nz hz1) R dJ0_isLatin1_aae02_18
noncomputable def F_J0_isLatin1_aae02_0  : Option Int32 := F_J0_isLatin1_aae02_18 ((1 : Int32))
set_option maxHeartbeats 4000000 in
set_option maxRecDepth 100000 in
theorem B_J0_isLatin1_aae02_0 {X : bb_X} (C : bb_C X RJ0 cJ0_isLatin1_aae02 1) (hR : bb_r X 1) (hr : X.meth.sig.returnType = (some .boolean)) (a b : Nat) (hE : bb_S a b X.A X.s X.s.heap) {z : Int32} (R : bb_R X (some (.int z)) ([]))  (hf : F_J0_isLatin1_aae02_0  = some z) : bb_Z X 1 ([]) 0 [(0, .ref a)] [] := by
  refine z_compact (pc := 0) C hE bf_J0_38 dJ0_isLatin1_aae02_0 ?_
  refine z_if_eq (pc := 3) C 17 dJ0_isLatin1_aae02_3 (by decide) (fun hc1 => absurd hc1 (by decide)) (fun _ => ?_)
  refine z_aload_n (pc := 6) (i := 0) C 0 dJ0_isLatin1_aae02_6 rfl rfl ?_
  refine z_strc (pc := 7) C hE bf_J0_15 dJ0_isLatin1_aae02_7 ?_
  refine z_if_ne (pc := 10) C 17 dJ0_isLatin1_aae02_10 (by decide) (fun hc2 => absurd (by decide) hc2) (fun _ => ?_)
  refine z_iconst (pc := 13) C (1 : Int32) dJ0_isLatin1_aae02_13 (by decide) ?_
  refine z_goto (pc := 14) C 18 dJ0_isLatin1_aae02_14 (by decide) ?_
  refine z_lv [] rfl ?_
  exact B_J0_isLatin1_aae02_18 C hR hr a b hE R  hf
theorem c_J0_isLatin1_aae02 {l : Launch} {D : va_G} {cs : Nat → ClassId} (a b : Nat) {z : Int32} (hf : F_J0_isLatin1_aae02_0  = some z) : bb_MS a b l yJ0_isLatin1_aae02 cJ0_isLatin1_aae02 1 (some .boolean) 1 D cs [.ref a] (some (.int z)) ([]) ([]) := bb_mgS (by decide) rfl (Nat.le_of_ble_eq_true rfl) rfl (fun X hl hD hcs C hR hr R hE => by
  subst hl
  subst hD
  subst hcs
  exact B_J0_isLatin1_aae02_0 C hR hr a b hE R hf)
theorem k_J0_isLatin1_aae02 : F_J0_isLatin1_aae02_0 = some (1 : Int32) := by
  first
  | rfl
  | exact bb_g_pos (show narrow .byte (.int (1 : Int32)) = .int (1 : Int32) from rfl)
  | (simp [F_J0_isLatin1_aae02_0, F_J0_isLatin1_aae02_18, bb_g, bb_z, bb_y]; done)
  | decide
/-! J0_coder_7d493: reads, level 1 -/
noncomputable def F_J0_coder_7d493_14 (y0 : Int32) : Option Int32 := bb_g (bb_y y0) (some y0)
set_option maxHeartbeats 4000000 in
set_option maxRecDepth 100000 in
theorem B_J0_coder_7d493_14 {X : bb_X} (C : bb_C X RJ0 cJ0_coder_7d493 1) (hR : bb_r X 1) (hr : X.meth.sig.returnType = (some .byte)) (a b : Nat) (hE : bb_S a b X.A X.s X.s.heap) {z : Int32} (R : bb_R X (some (.int z)) ([])) {y0 : Int32} (hf : F_J0_coder_7d493_14 y0 = some z) : bb_Z X 1 ([]) 14 [] [.int y0] := by
  obtain ⟨hz1, hf⟩ := bb_g_some hf
  obtain rfl := Option.some.inj hf
  exact z_zret (pc := 14) C hr hz1 R dJ0_coder_7d493_14
noncomputable def F_J0_coder_7d493_0  : Option Int32 := F_J0_coder_7d493_14 ((0 : Int32))
set_option maxHeartbeats 4000000 in
set_option maxRecDepth 100000 in
theorem B_J0_coder_7d493_0 {X : bb_X} (C : bb_C X RJ0 cJ0_coder_7d493 1) (hR : bb_r X 1) (hr : X.meth.sig.returnType = (some .byte)) (a b : Nat) (hE : bb_S a b X.A X.s X.s.heap) {z : Int32} (R : bb_R X (some (.int z)) ([]))  (hf : F_J0_coder_7d493_0  = some z) : bb_Z X 1 ([]) 0 [(0, .ref a)] [] := by
  refine z_compact (pc := 0) C hE bf_J0_38 dJ0_coder_7d493_0 ?_
  refine z_if_eq (pc := 3) C 13 dJ0_coder_7d493_3 (by decide) (fun hc1 => absurd hc1 (by decide)) (fun _ => ?_)
  refine z_aload_n (pc := 6) (i := 0) C 0 dJ0_coder_7d493_6 rfl rfl ?_
  refine z_strc (pc := 7) C hE bf_J0_15 dJ0_coder_7d493_7 ?_
  refine z_goto (pc := 10) C 14 dJ0_coder_7d493_10 (by decide) ?_
  refine z_lv [] rfl ?_
  exact B_J0_coder_7d493_14 C hR hr a b hE R  hf
theorem c_J0_coder_7d493 {l : Launch} {D : va_G} {cs : Nat → ClassId} (a b : Nat) {z : Int32} (hf : F_J0_coder_7d493_0  = some z) : bb_MS a b l yJ0_coder_7d493 cJ0_coder_7d493 1 (some .byte) 1 D cs [.ref a] (some (.int z)) ([]) ([]) := bb_mgS (by decide) rfl (Nat.le_of_ble_eq_true rfl) rfl (fun X hl hD hcs C hR hr R hE => by
  subst hl
  subst hD
  subst hcs
  exact B_J0_coder_7d493_0 C hR hr a b hE R hf)
theorem k_J0_coder_7d493 : F_J0_coder_7d493_0 = some (0 : Int32) := by
  first
  | rfl
  | exact bb_g_pos (show narrow .byte (.int (0 : Int32)) = .int (0 : Int32) from rfl)
  | (simp [F_J0_coder_7d493_0, F_J0_coder_7d493_14, bb_g, bb_z, bb_y]; done)
  | decide
/-! J0_length_8abf5: reads, level 2 -/
noncomputable def F_J0_length_8abf5_0  : Option Int32 := some (((5 : Int32)) >>> (((0 : Int32)) &&& 31))
set_option maxHeartbeats 4000000 in
set_option maxRecDepth 100000 in
theorem B_J0_length_8abf5_0 {X : bb_X} (C : bb_C X RJ0 cJ0_length_8abf5 1) (hR : bb_r X 2) (hr : X.meth.sig.returnType = (some .int)) (a b : Nat) (hE : bb_S a b X.A X.s X.s.heap) {z : Int32} (R : bb_R X (some (.int z)) ([]))  (hf : F_J0_length_8abf5_0  = some z) : bb_Z X 1 ([]) 0 [(0, .ref a)] [] := by
  refine z_aload_n (pc := 0) (i := 0) C 0 dJ0_length_8abf5_0 rfl rfl ?_
  refine z_strv (pc := 1) C hE bf_J0_9 dJ0_length_8abf5_1 ?_
  refine z_blen (pc := 4) C hE dJ0_length_8abf5_4 ?_
  refine z_aload_n (pc := 5) (i := 0) C 0 dJ0_length_8abf5_5 rfl rfl ?_
  refine z_callT (pc := 6) (As := []) (rest := [.int ((5 : Int32))]) C hE (hR.le (by decide)) (c_J0_coder_7d493 a b k_J0_coder_7d493) bv_J0_coder_7d493 bm_J0_335 rfl rfl (Nat.le_of_ble_eq_true rfl) dJ0_length_8abf5_6 ?_
  refine z_ishr (pc := 9) C dJ0_length_8abf5_9 ?_
  obtain rfl := Option.some.inj hf
  exact z_iret (pc := 10) C hr R dJ0_length_8abf5_10
theorem c_J0_length_8abf5 {l : Launch} {D : va_G} {cs : Nat → ClassId} (a b : Nat) {z : Int32} (hf : F_J0_length_8abf5_0  = some z) : bb_MS a b l yJ0_length_8abf5 cJ0_length_8abf5 1 (some .int) 2 D cs [.ref a] (some (.int z)) ([]) ([]) := bb_mgS (by decide) rfl (Nat.le_of_ble_eq_true rfl) rfl (fun X hl hD hcs C hR hr R hE => by
  subst hl
  subst hD
  subst hcs
  exact B_J0_length_8abf5_0 C hR hr a b hE R hf)
theorem k_J0_length_8abf5 : F_J0_length_8abf5_0 = some (5 : Int32) := by
  first
  | rfl
  | exact bb_g_pos (show narrow .byte (.int (5 : Int32)) = .int (5 : Int32) from rfl)
  | (simp [F_J0_length_8abf5_0, bb_g, bb_z, bb_y]; done)
  | decide
/-! J1_canEncode_9a6ad: reads, level 1 -/
noncomputable def F_J1_canEncode_9a6ad_16 (y0 : Int32) : Option Int32 := bb_g (bb_z y0) (some y0)
set_option maxHeartbeats 4000000 in
set_option maxRecDepth 100000 in
theorem B_J1_canEncode_9a6ad_16 {X : bb_X} (C : bb_C X RJ1 cJ1_canEncode_9a6ad 1) (hR : bb_r X 1) (hr : X.meth.sig.returnType = (some .boolean)) {z : Int32} (R : bb_R X (some (.int z)) ([])) {y0 : Int32} (hf : F_J1_canEncode_9a6ad_16 y0 = some z) : bb_Z X 1 ([]) 16 [] [.int y0] := by
  obtain ⟨hz1, hf⟩ := bb_g_some hf
  obtain rfl := Option.some.inj hf
  exact z_zret (pc := 16) C hr (bb_nz hz1) R dJ1_canEncode_9a6ad_16
noncomputable def F_J1_canEncode_9a6ad_15  : Option Int32 := F_J1_canEncode_9a6ad_16 ((0 : Int32))
set_option maxHeartbeats 4000000 in
set_option maxRecDepth 100000 in
theorem B_J1_canEncode_9a6ad_15 {X : bb_X} (C : bb_C X RJ1 cJ1_canEncode_9a6ad 1) (hR : bb_r X 1) (hr : X.meth.sig.returnType = (some .boolean)) {z : Int32} (R : bb_R X (some (.int z)) ([]))  (hf : F_J1_canEncode_9a6ad_15  = some z) : bb_Z X 1 ([]) 15 [] [] := by
  refine z_iconst (pc := 15) C (0 : Int32) dJ1_canEncode_9a6ad_15 (by decide) ?_
  exact B_J1_canEncode_9a6ad_16 C hR hr  R  hf
noncomputable def F_J1_canEncode_9a6ad_0 (x0 : Int32) : Option Int32 := if x0 < 0 then F_J1_canEncode_9a6ad_15 else (if ((255 : Int32)) < x0 then F_J1_canEncode_9a6ad_15 else (F_J1_canEncode_9a6ad_16 ((1 : Int32))))
set_option maxHeartbeats 4000000 in
set_option maxRecDepth 100000 in
theorem B_J1_canEncode_9a6ad_0 {X : bb_X} (C : bb_C X RJ1 cJ1_canEncode_9a6ad 1) (hR : bb_r X 1) (hr : X.meth.sig.returnType = (some .boolean)) {z : Int32} (R : bb_R X (some (.int z)) ([])) {x0 : Int32} (hf : F_J1_canEncode_9a6ad_0 x0 = some z) : bb_Z X 1 ([]) 0 [(0, .int x0)] [] := by
  refine z_iload_n (pc := 0) (i := 0) C 0 dJ1_canEncode_9a6ad_0 rfl rfl ?_
  refine z_if_lt (pc := 1) C 15 dJ1_canEncode_9a6ad_1 (by decide) (fun hc1 => ?_) (fun hc1 => ?_)
  · have hf := bb_t hf hc1
    refine z_lv [] rfl ?_
    exact B_J1_canEncode_9a6ad_15 C hR hr  R  hf
  · have hf := bb_e hf hc1
    refine z_iload_n (pc := 4) (i := 0) C 0 dJ1_canEncode_9a6ad_4 rfl rfl ?_
    refine z_sipush (pc := 5) C (255 : Int32) dJ1_canEncode_9a6ad_5 (by decide) ?_
    refine z_icmp_gt (pc := 8) C 15 dJ1_canEncode_9a6ad_8 (by decide) (fun hc2 => ?_) (fun hc2 => ?_)
    · have hf := bb_t hf hc2
      refine z_lv [] rfl ?_
      exact B_J1_canEncode_9a6ad_15 C hR hr  R  hf
    · have hf := bb_e hf hc2
      refine z_iconst (pc := 11) C (1 : Int32) dJ1_canEncode_9a6ad_11 (by decide) ?_
      refine z_goto (pc := 12) C 16 dJ1_canEncode_9a6ad_12 (by decide) ?_
      refine z_lv [] rfl ?_
      exact B_J1_canEncode_9a6ad_16 C hR hr  R  hf
theorem c_J1_canEncode_9a6ad {l : Launch} {D : va_G} {cs : Nat → ClassId} {x0 : Int32} {z : Int32} (hf : F_J1_canEncode_9a6ad_0 x0 = some z) : bb_M l yJ1_canEncode_9a6ad cJ1_canEncode_9a6ad 1 (some .boolean) 1 D cs [.int x0] (some (.int z)) ([]) ([]) := bb_mg (by decide) rfl (Nat.le_of_ble_eq_true rfl) rfl (fun X hl hD hcs C hR hr R => by
  subst hl
  subst hD
  subst hcs
  exact B_J1_canEncode_9a6ad_0 C hR hr  R hf)
/-! J1_indexOfChar_4cfef: reads, level 1 -/
noncomputable def G_J1_indexOfChar_4cfef_7 (k7 : Int32 → Int32 → Int32 → Option Int32) (x3 : Int32) (x4 : Int32) (x5 : Int32) : Option Int32 := if x3 ≤ x5 then (some ((-1 : Int32))) else (bb_g (vp_in x5 5) (if (bb_kb x5.toNatClampNeg) = x4 then (some x5) else (k7 x3 x4 (x5 + 1))))
noncomputable def F_J1_indexOfChar_4cfef_7  : Nat → Int32 → Int32 → Int32 → Option Int32
  | 0, _, _, _ => none
  | n + 1, x3, x4, x5 => G_J1_indexOfChar_4cfef_7  (F_J1_indexOfChar_4cfef_7  n) x3 x4 x5
set_option maxHeartbeats 4000000 in
set_option maxRecDepth 100000 in
theorem A_J1_indexOfChar_4cfef_7 {X : bb_X} (C : bb_C X RJ1 cJ1_indexOfChar_4cfef 6) (hR : bb_r X 1) (hr : X.meth.sig.returnType = (some .int)) (a b : Nat) (hE : bb_S a b X.A X.s X.s.heap) {z : Int32} (R : bb_R X (some (.int z)) ([])) {k7 : Int32 → Int32 → Int32 → Option Int32} (hk7 : ∀ (x3 : Int32) (x4 : Int32) (x5 : Int32), k7 x3 x4 x5 = some z → bb_Z X 6 ([]) 7 [(0, .ref b), (3, .int x3), (4, .int x4), (5, .int x5)] []) {x3 : Int32} {x4 : Int32} {x5 : Int32} (hf : G_J1_indexOfChar_4cfef_7 k7 x3 x4 x5 = some z) : bb_Z X 6 ([]) 7 [(0, .ref b), (3, .int x3), (4, .int x4), (5, .int x5)] [] := by
  refine z_iload (pc := 7) C 3 dJ1_indexOfChar_4cfef_7 rfl ?_
  refine z_iload_n (pc := 9) (i := 3) C 1 dJ1_indexOfChar_4cfef_9 rfl rfl ?_
  refine z_icmp_ge (pc := 10) C 31 dJ1_indexOfChar_4cfef_10 (by decide) (fun hc1 => ?_) (fun hc1 => ?_)
  · have hf := bb_t hf hc1
    refine z_iconst (pc := 31) C (-1 : Int32) dJ1_indexOfChar_4cfef_31 (by decide) ?_
    obtain rfl := Option.some.inj hf
    exact z_iret (pc := 32) C hr R dJ1_indexOfChar_4cfef_32
  · have hf := bb_e hf hc1
    refine z_aload_n (pc := 13) (i := 0) C 0 dJ1_indexOfChar_4cfef_13 rfl rfl ?_
    refine z_iload (pc := 14) C 3 dJ1_indexOfChar_4cfef_14 rfl ?_
    obtain ⟨hv2, hf⟩ := bb_g_some hf
    refine z_bald (pc := 16) C hE hv2 dJ1_indexOfChar_4cfef_16 ?_
    refine z_iload (pc := 17) C 2 dJ1_indexOfChar_4cfef_17 rfl ?_
    refine z_icmp_ne (pc := 19) C 25 dJ1_indexOfChar_4cfef_19 (by decide) (fun hc3 => ?_) (fun hc3 => ?_)
    · have hf := bb_e hf hc3
      refine z_iinc (pc := 25) (lv' := [(5, .int (x5 + 1)), (0, .ref b), (3, .int x3), (4, .int x4)]) C (x5 + 1) 3 dJ1_indexOfChar_4cfef_25 rfl rfl (by decide) rfl ?_
      refine z_goto (pc := 28) C 7 dJ1_indexOfChar_4cfef_28 (by decide) ?_
      refine z_lv [1, 2, 3, 0] rfl ?_
      exact hk7 _ _ _ hf
    · have hf := bb_t hf hc3
      refine z_iload (pc := 22) C 3 dJ1_indexOfChar_4cfef_22 rfl ?_
      obtain rfl := Option.some.inj hf
      exact z_iret (pc := 24) C hr R dJ1_indexOfChar_4cfef_24
theorem B_J1_indexOfChar_4cfef_7 {X : bb_X} (C : bb_C X RJ1 cJ1_indexOfChar_4cfef 6) (hR : bb_r X 1) (hr : X.meth.sig.returnType = (some .int)) (a b : Nat) (hE : bb_S a b X.A X.s X.s.heap) {z : Int32} (R : bb_R X (some (.int z)) ([])) : ∀ (n : Nat) (x3 : Int32) (x4 : Int32) (x5 : Int32), F_J1_indexOfChar_4cfef_7  n x3 x4 x5 = some z → bb_Z X 6 ([]) 7 [(0, .ref b), (3, .int x3), (4, .int x4), (5, .int x5)] [] := by
  intro n
  induction n with
  | zero =>
    intro x3 x4 x5 hf
    cases hf
  | succ n ih =>
    intro x3 x4 x5 hf
    exact A_J1_indexOfChar_4cfef_7 C hR hr a b hE R  ih hf
noncomputable def F_J1_indexOfChar_4cfef_0 (x1 : Int32) (x2 : Int32) (x3 : Int32) : Option Int32 := F_J1_indexOfChar_4cfef_7 bb_N x3 (x1.toInt8.toInt32) x2
set_option maxHeartbeats 4000000 in
set_option maxRecDepth 100000 in
theorem B_J1_indexOfChar_4cfef_0 {X : bb_X} (C : bb_C X RJ1 cJ1_indexOfChar_4cfef 6) (hR : bb_r X 1) (hr : X.meth.sig.returnType = (some .int)) (a b : Nat) (hE : bb_S a b X.A X.s X.s.heap) {z : Int32} (R : bb_R X (some (.int z)) ([])) {x1 : Int32} {x2 : Int32} {x3 : Int32} (hf : F_J1_indexOfChar_4cfef_0 x1 x2 x3 = some z) : bb_Z X 6 ([]) 0 [(0, .ref b), (1, .int x1), (2, .int x2), (3, .int x3)] [] := by
  refine z_iload_n (pc := 0) (i := 1) C 1 dJ1_indexOfChar_4cfef_0 rfl rfl ?_
  refine z_i2b (pc := 1) C dJ1_indexOfChar_4cfef_1 ?_
  refine z_istore (pc := 2) (lv' := [(4, .int (x1.toInt8.toInt32)), (0, .ref b), (1, .int x1), (2, .int x2), (3, .int x3)]) C dJ1_indexOfChar_4cfef_2 (by decide) rfl ?_
  refine z_iload_n (pc := 4) (i := 2) C 3 dJ1_indexOfChar_4cfef_4 rfl rfl ?_
  refine z_istore (pc := 5) (lv' := [(5, .int x2), (4, .int (x1.toInt8.toInt32)), (0, .ref b), (1, .int x1), (2, .int x2), (3, .int x3)]) C dJ1_indexOfChar_4cfef_5 (by decide) rfl ?_
  refine z_lv [2, 5, 1, 0] rfl ?_
  exact B_J1_indexOfChar_4cfef_7 C hR hr a b hE R  bb_N _ _ _ hf
theorem c_J1_indexOfChar_4cfef {l : Launch} {D : va_G} {cs : Nat → ClassId} (a b : Nat) {x1 : Int32} {x2 : Int32} {x3 : Int32} {z : Int32} (hf : F_J1_indexOfChar_4cfef_0 x1 x2 x3 = some z) : bb_MS a b l yJ1_indexOfChar_4cfef cJ1_indexOfChar_4cfef 6 (some .int) 1 D cs [.ref b, .int x1, .int x2, .int x3] (some (.int z)) ([]) ([]) := bb_mgS (by decide) rfl (Nat.le_of_ble_eq_true rfl) rfl (fun X hl hD hcs C hR hr R hE => by
  subst hl
  subst hD
  subst hcs
  exact B_J1_indexOfChar_4cfef_0 C hR hr a b hE R hf)
/-! J1_indexOf_4cfef: reads, level 2 -/
noncomputable def F_J1_indexOf_4cfef_0 (x1 : Int32) (x2 : Int32) (x3 : Int32) : Option Int32 := (F_J1_canEncode_9a6ad_0 x1).bind (fun q1 => if q1 = 0 then (some ((-1 : Int32))) else (if (if x2 < ((0 : Int32)) then ((0 : Int32)) else x2) < (if ((5 : Int32)) < x3 then ((5 : Int32)) else x3) then ((F_J1_indexOfChar_4cfef_0 x1 (if x2 < ((0 : Int32)) then ((0 : Int32)) else x2) (if ((5 : Int32)) < x3 then ((5 : Int32)) else x3)).bind (fun q4 => some q4)) else (some ((-1 : Int32)))))
set_option maxHeartbeats 4000000 in
set_option maxRecDepth 100000 in
theorem B_J1_indexOf_4cfef_0 {X : bb_X} (C : bb_C X RJ1 cJ1_indexOf_4cfef 4) (hR : bb_r X 2) (hr : X.meth.sig.returnType = (some .int)) (a b : Nat) (hE : bb_S a b X.A X.s X.s.heap) {z : Int32} (R : bb_R X (some (.int z)) ([])) {x1 : Int32} {x2 : Int32} {x3 : Int32} (hf : F_J1_indexOf_4cfef_0 x1 x2 x3 = some z) : bb_Z X 4 ([]) 0 [(0, .ref b), (1, .int x1), (2, .int x2), (3, .int x3)] [] := by
  refine z_iload_n (pc := 0) (i := 1) C 1 dJ1_indexOf_4cfef_0 rfl rfl ?_
  obtain ⟨q1, hq1, hf⟩ := bb_b_some hf
  refine z_callSi (pc := 1) (As := [.int x1]) (rest := []) C (hR.le (by decide)) (c_J1_canEncode_9a6ad hq1) (bb_cut_none _) bv_J1_canEncode_9a6ad bm_J1_88 rfl rfl (Nat.le_of_ble_eq_true rfl) dJ1_indexOf_4cfef_1 ?_
  refine z_if_ne (pc := 4) C 9 dJ1_indexOf_4cfef_4 (by decide) (fun hc2 => ?_) (fun hc2 => ?_)
  · have hf := bb_e hf hc2
    refine z_iload_n (pc := 9) (i := 2) C 2 dJ1_indexOf_4cfef_9 rfl rfl ?_
    refine z_iconst (pc := 10) C (0 : Int32) dJ1_indexOf_4cfef_10 (by decide) ?_
    refine z_mmax (pc := 11) C (hR.le (by decide)) bm_J1_92 bl_max_s bl_Math bl_max_c (Nat.le_of_ble_eq_true rfl) dJ1_indexOf_4cfef_11 ?_
    refine z_istore_n (pc := 14) (i := 2) (lv' := [(2, .int (if x2 < ((0 : Int32)) then ((0 : Int32)) else x2)), (0, .ref b), (1, .int x1), (3, .int x3)]) C dJ1_indexOf_4cfef_14 rfl (by decide) rfl ?_
    refine z_iload_n (pc := 15) (i := 3) C 3 dJ1_indexOf_4cfef_15 rfl rfl ?_
    refine z_aload_n (pc := 16) (i := 0) C 1 dJ1_indexOf_4cfef_16 rfl rfl ?_
    refine z_blen (pc := 17) C hE dJ1_indexOf_4cfef_17 ?_
    refine z_mmin (pc := 18) C (hR.le (by decide)) bm_J1_38 bl_min_s bl_Math bl_min_c (Nat.le_of_ble_eq_true rfl) dJ1_indexOf_4cfef_18 ?_
    refine z_istore_n (pc := 21) (i := 3) (lv' := [(3, .int (if ((5 : Int32)) < x3 then ((5 : Int32)) else x3)), (2, .int (if x2 < ((0 : Int32)) then ((0 : Int32)) else x2)), (0, .ref b), (1, .int x1)]) C dJ1_indexOf_4cfef_21 rfl (by decide) rfl ?_
    refine z_iload_n (pc := 22) (i := 2) C 1 dJ1_indexOf_4cfef_22 rfl rfl ?_
    refine z_iload_n (pc := 23) (i := 3) C 0 dJ1_indexOf_4cfef_23 rfl rfl ?_
    refine z_icmp_lt (pc := 24) C 29 dJ1_indexOf_4cfef_24 (by decide) (fun hc3 => ?_) (fun hc3 => ?_)
    · have hf := bb_t hf hc3
      refine z_aload_n (pc := 29) (i := 0) C 2 dJ1_indexOf_4cfef_29 rfl rfl ?_
      refine z_iload_n (pc := 30) (i := 1) C 3 dJ1_indexOf_4cfef_30 rfl rfl ?_
      refine z_iload_n (pc := 31) (i := 2) C 1 dJ1_indexOf_4cfef_31 rfl rfl ?_
      refine z_iload_n (pc := 32) (i := 3) C 0 dJ1_indexOf_4cfef_32 rfl rfl ?_
      obtain ⟨q4, hq4, hf⟩ := bb_b_some hf
      refine z_callSS (pc := 33) (As := [.ref b, .int x1, .int (if x2 < ((0 : Int32)) then ((0 : Int32)) else x2), .int (if ((5 : Int32)) < x3 then ((5 : Int32)) else x3)]) (rest := []) C hE (hR.le (by decide)) (c_J1_indexOfChar_4cfef a b hq4) bv_J1_indexOfChar_4cfef bm_J1_95 rfl rfl (Nat.le_of_ble_eq_true rfl) dJ1_indexOf_4cfef_33 ?_
      obtain rfl := Option.some.inj hf
      exact z_iret (pc := 36) C hr R dJ1_indexOf_4cfef_36
    · have hf := bb_e hf hc3
      refine z_iconst (pc := 27) C (-1 : Int32) dJ1_indexOf_4cfef_27 (by decide) ?_
      obtain rfl := Option.some.inj hf
      exact z_iret (pc := 28) C hr R dJ1_indexOf_4cfef_28
  · have hf := bb_t hf hc2
    refine z_iconst (pc := 7) C (-1 : Int32) dJ1_indexOf_4cfef_7 (by decide) ?_
    obtain rfl := Option.some.inj hf
    exact z_iret (pc := 8) C hr R dJ1_indexOf_4cfef_8
theorem c_J1_indexOf_4cfef {l : Launch} {D : va_G} {cs : Nat → ClassId} (a b : Nat) {x1 : Int32} {x2 : Int32} {x3 : Int32} {z : Int32} (hf : F_J1_indexOf_4cfef_0 x1 x2 x3 = some z) : bb_MS a b l yJ1_indexOf_4cfef cJ1_indexOf_4cfef 4 (some .int) 2 D cs [.ref b, .int x1, .int x2, .int x3] (some (.int z)) ([]) ([]) := bb_mgS (by decide) rfl (Nat.le_of_ble_eq_true rfl) rfl (fun X hl hD hcs C hR hr R hE => by
  subst hl
  subst hD
  subst hcs
  exact B_J1_indexOf_4cfef_0 C hR hr a b hE R hf)
/-! J0_indexOf_7cf53: reads, level 3 -/
noncomputable def F_J0_indexOf_7cf53_36 (y0 : Int32) : Option Int32 := some y0
set_option maxHeartbeats 4000000 in
set_option maxRecDepth 100000 in
theorem B_J0_indexOf_7cf53_36 {X : bb_X} (C : bb_C X RJ0 cJ0_indexOf_7cf53 3) (hR : bb_r X 3) (hr : X.meth.sig.returnType = (some .int)) (a b : Nat) (hE : bb_S a b X.A X.s X.s.heap) {z : Int32} (R : bb_R X (some (.int z)) ([])) {y0 : Int32} (hf : F_J0_indexOf_7cf53_36 y0 = some z) : bb_Z X 3 ([]) 36 [] [.int y0] := by
  obtain rfl := Option.some.inj hf
  exact z_iret (pc := 36) C hr R dJ0_indexOf_7cf53_36
noncomputable def F_J0_indexOf_7cf53_0 (x1 : Int32) (x2 : Int32) : Option Int32 := (F_J1_indexOf_4cfef_0 x1 x2 ((5 : Int32))).bind (fun q4 => F_J0_indexOf_7cf53_36 q4)
set_option maxHeartbeats 4000000 in
set_option maxRecDepth 100000 in
theorem B_J0_indexOf_7cf53_0 {X : bb_X} (C : bb_C X RJ0 cJ0_indexOf_7cf53 3) (hR : bb_r X 3) (hr : X.meth.sig.returnType = (some .int)) (a b : Nat) (hE : bb_S a b X.A X.s X.s.heap) {z : Int32} (R : bb_R X (some (.int z)) ([])) {x1 : Int32} {x2 : Int32} (hf : F_J0_indexOf_7cf53_0 x1 x2 = some z) : bb_Z X 3 ([]) 0 [(0, .ref a), (1, .int x1), (2, .int x2)] [] := by
  refine z_aload_n (pc := 0) (i := 0) C 0 dJ0_indexOf_7cf53_0 rfl rfl ?_
  refine z_callT (pc := 1) (As := []) (rest := []) C hE (hR.le (by decide)) (c_J0_isLatin1_aae02 a b k_J0_isLatin1_aae02) bv_J0_isLatin1_aae02 bm_J0_492 rfl rfl (Nat.le_of_ble_eq_true rfl) dJ0_indexOf_7cf53_1 ?_
  refine z_if_eq (pc := 4) C 23 dJ0_indexOf_7cf53_4 (by decide) (fun hc2 => absurd hc2 (by decide)) (fun _ => ?_)
  refine z_aload_n (pc := 7) (i := 0) C 0 dJ0_indexOf_7cf53_7 rfl rfl ?_
  refine z_strv (pc := 8) C hE bf_J0_9 dJ0_indexOf_7cf53_8 ?_
  refine z_iload_n (pc := 11) (i := 1) C 1 dJ0_indexOf_7cf53_11 rfl rfl ?_
  refine z_iload_n (pc := 12) (i := 2) C 2 dJ0_indexOf_7cf53_12 rfl rfl ?_
  refine z_aload_n (pc := 13) (i := 0) C 0 dJ0_indexOf_7cf53_13 rfl rfl ?_
  refine z_callT (pc := 14) (As := []) (rest := [.int x2, .int x1, .ref b]) C hE (hR.le (by decide)) (c_J0_length_8abf5 a b k_J0_length_8abf5) bv_J0_length_8abf5 bm_J0_505 rfl rfl (Nat.le_of_ble_eq_true rfl) dJ0_indexOf_7cf53_14 ?_
  obtain ⟨q4, hq4, hf⟩ := bb_b_some hf
  refine z_callSS (pc := 17) (As := [.ref b, .int x1, .int x2, .int ((5 : Int32))]) (rest := []) C hE (hR.le (by decide)) (c_J1_indexOf_4cfef a b hq4) bv_J1_indexOf_4cfef bm_J0_637 rfl rfl (Nat.le_of_ble_eq_true rfl) dJ0_indexOf_7cf53_17 ?_
  refine z_goto (pc := 20) C 36 dJ0_indexOf_7cf53_20 (by decide) ?_
  refine z_lv [] rfl ?_
  exact B_J0_indexOf_7cf53_36 C hR hr a b hE R  hf
theorem c_J0_indexOf_7cf53 {l : Launch} {D : va_G} {cs : Nat → ClassId} (a b : Nat) {x1 : Int32} {x2 : Int32} {z : Int32} (hf : F_J0_indexOf_7cf53_0 x1 x2 = some z) : bb_MS a b l yJ0_indexOf_7cf53 cJ0_indexOf_7cf53 3 (some .int) 3 D cs [.ref a, .int x1, .int x2] (some (.int z)) ([]) ([]) := bb_mgS (by decide) rfl (Nat.le_of_ble_eq_true rfl) rfl (fun X hl hD hcs C hR hr R hE => by
  subst hl
  subst hD
  subst hcs
  exact B_J0_indexOf_7cf53_0 C hR hr a b hE R hf)
/-! J0_indexOf_0f7a4: reads, level 4 -/
noncomputable def F_J0_indexOf_0f7a4_0 (x1 : Int32) : Option Int32 := (F_J0_indexOf_7cf53_0 x1 ((0 : Int32))).bind (fun q1 => some q1)
set_option maxHeartbeats 4000000 in
set_option maxRecDepth 100000 in
theorem B_J0_indexOf_0f7a4_0 {X : bb_X} (C : bb_C X RJ0 cJ0_indexOf_0f7a4 2) (hR : bb_r X 4) (hr : X.meth.sig.returnType = (some .int)) (a b : Nat) (hE : bb_S a b X.A X.s X.s.heap) {z : Int32} (R : bb_R X (some (.int z)) ([])) {x1 : Int32} (hf : F_J0_indexOf_0f7a4_0 x1 = some z) : bb_Z X 2 ([]) 0 [(0, .ref a), (1, .int x1)] [] := by
  refine z_aload_n (pc := 0) (i := 0) C 0 dJ0_indexOf_0f7a4_0 rfl rfl ?_
  refine z_iload_n (pc := 1) (i := 1) C 1 dJ0_indexOf_0f7a4_1 rfl rfl ?_
  refine z_iconst (pc := 2) C (0 : Int32) dJ0_indexOf_0f7a4_2 (by decide) ?_
  obtain ⟨q1, hq1, hf⟩ := bb_b_some hf
  refine z_callT (pc := 3) (As := [.int x1, .int ((0 : Int32))]) (rest := []) C hE (hR.le (by decide)) (c_J0_indexOf_7cf53 a b hq1) bv_J0_indexOf_7cf53 bm_J0_633 rfl rfl (Nat.le_of_ble_eq_true rfl) dJ0_indexOf_0f7a4_3 ?_
  obtain rfl := Option.some.inj hf
  exact z_iret (pc := 6) C hr R dJ0_indexOf_0f7a4_6
theorem c_J0_indexOf_0f7a4 {l : Launch} {D : va_G} {cs : Nat → ClassId} (a b : Nat) {x1 : Int32} {z : Int32} (hf : F_J0_indexOf_0f7a4_0 x1 = some z) : bb_MS a b l yJ0_indexOf_0f7a4 cJ0_indexOf_0f7a4 2 (some .int) 4 D cs [.ref a, .int x1] (some (.int z)) ([]) ([]) := bb_mgS (by decide) rfl (Nat.le_of_ble_eq_true rfl) rfl (fun X hl hD hcs C hR hr R hE => by
  subst hl
  subst hD
  subst hcs
  exact B_J0_indexOf_0f7a4_0 C hR hr a b hE R hf)
/-! X3_readPerson: writes, level 5 -/
noncomputable def F_X3_readPerson_0 (s0 : bb_O) (s1 : bb_O) : Option (Int32 × (bb_O × bb_O)) := (F_X3_peek_e s0).bind (fun q1 => (F_J0_indexOf_0f7a4_0 q1.1).bind (fun q2 => if 0 ≤ q2 then ((F_X3_readCell_0 (bb_sf q1.2 2 ((q1.2.1 2) + ((1 : Int32)))) s1).bind (fun q4 => if q4.1 = ((-4 : Int32)) then (some ((0 : Int32), (q4.2.1, q4.2.2))) else ((F_X3_readDigit_0 q4.2.1 ((0 : Int32)) ((9 : Int32))).bind (fun q6 => if q6.1 = ((-4 : Int32)) then (some ((0 : Int32), (q6.2, q4.2.2))) else ((F_X3_readFeatures_0 q6.2).bind (fun q8 => (F_X0_enter_0 q4.2.2 q2 q4.1 q6.1 q8.1).bind (fun q9 => some ((1 : Int32), (q8.2, q9.2))))))))) else (some ((0 : Int32), (q1.2, s1)))))
set_option maxHeartbeats 4000000 in
set_option maxRecDepth 100000 in
theorem B_X3_readPerson_0 {X : bb_X} (C : bb_C X RX3 cX3_readPerson 5) (hR : bb_r X 5) (hr : X.meth.sig.returnType = (some .boolean)) (h : Nat → Nat) (g : Nat → Nat) (a b : Nat) (hE : bb_S a b X.A X.s X.s.heap) {z : (Int32 × (bb_O × bb_O))} (R : bb_R X (some (.int z.1)) (wX3 X.cs h z.2.1 ++ wX0 X.cs g z.2.2)) {s0 : bb_O} {s1 : bb_O} (hf : F_X3_readPerson_0 s0 s1 = some z) : bb_Z X 5 (wX3 X.cs h s0 ++ wX0 X.cs g s1) 0 [(0, .ref (h 0)), (1, .ref (g 0))] [] := by
  refine z_ldcS (pc := 0) C hE dX3_readPerson_0 ?_
  refine z_aload_n (pc := 2) (i := 0) C 0 dX3_readPerson_2 rfl rfl ?_
  obtain ⟨q1, hq1, hf⟩ := bb_b_some hf
  refine z_callVi (pc := 3) (ci := 3) (q0 := 0) (As := []) (rest := [.ref a]) (ws' := wX3 X.cs h q1.2 ++ wX0 X.cs g s1) C (hR.le (by decide)) (c_X3_peek h hq1) (cut_X3X0_0 _ _ _ _ _ _) bv_X3_peek bm_X3_33 rfl rfl rfl rfl (Nat.le_of_ble_eq_true rfl) dX3_readPerson_3 ?_
  obtain ⟨q2, hq2, hf⟩ := bb_b_some hf
  refine z_callT (pc := 6) (As := [.int q1.1]) (rest := []) C hE (hR.le (by decide)) (c_J0_indexOf_0f7a4 a b hq2) bv_J0_indexOf_0f7a4 bm_X3_61 rfl rfl (Nat.le_of_ble_eq_true rfl) dX3_readPerson_6 ?_
  refine z_istore_n (pc := 9) (i := 2) (lv' := [(2, .int q2), (0, .ref (h 0)), (1, .ref (g 0))]) C dX3_readPerson_9 rfl (by decide) rfl ?_
  refine z_iload_n (pc := 10) (i := 2) C 0 dX3_readPerson_10 rfl rfl ?_
  refine z_if_ge (pc := 11) C 16 dX3_readPerson_11 (by decide) (fun hc3 => ?_) (fun hc3 => ?_)
  · have hf := bb_t hf hc3
    refine z_aload_n (pc := 16) (i := 0) C 1 dX3_readPerson_16 rfl rfl ?_
    refine z_dup (pc := 17) C dX3_readPerson_17 rfl ?_
    refine z_get (pc := 18) (ci := 3) C (.int (q1.2.1 2)) bi_X3 rfl 0 2 (by decide) rfl bf_X3_19 rfl rfl dX3_readPerson_18 ?_
    refine z_iconst (pc := 21) C (1 : Int32) dX3_readPerson_21 (by decide) ?_
    refine z_iadd (pc := 22) C dX3_readPerson_22 ?_
    refine z_put (pc := 23) (ci := 3) (ty := .int) (ws' := wX3 X.cs h (bb_sf q1.2 2 ((q1.2.1 2) + ((1 : Int32)))) ++ wX0 X.cs g s1) C bi_X3 tyX3_ok nmX3 rfl 0 2 (by decide) rfl bf_X3_19 rfl rfl rfl rfl rfl (Nat.le_of_ble_eq_true rfl) rfl dX3_readPerson_23 ?_
    refine z_aload_n (pc := 26) (i := 0) C 1 dX3_readPerson_26 rfl rfl ?_
    refine z_aload_n (pc := 27) (i := 1) C 2 dX3_readPerson_27 rfl rfl ?_
    obtain ⟨q4, hq4, hf⟩ := bb_b_some hf
    refine z_callVi (pc := 28) (ci := 3) (q0 := 0) (As := [.ref (g 0)]) (rest := []) (ws' := wX3 X.cs h q4.2.1 ++ wX0 X.cs g q4.2.2) C (hR.le (by decide)) (c_X3_readCell h g hq4) (bb_cut_self _ _) bv_X3_readCell bm_X3_47 rfl rfl rfl rfl (Nat.le_of_ble_eq_true rfl) dX3_readPerson_28 ?_
    refine z_istore_n (pc := 31) (i := 3) (lv' := [(3, .int q4.1), (2, .int q2), (0, .ref (h 0)), (1, .ref (g 0))]) C dX3_readPerson_31 rfl (by decide) rfl ?_
    refine z_iload_n (pc := 32) (i := 3) C 0 dX3_readPerson_32 rfl rfl ?_
    refine z_bipush (pc := 33) C (-4 : Int32) dX3_readPerson_33 (by decide) ?_
    refine z_icmp_ne (pc := 35) C 40 dX3_readPerson_35 (by decide) (fun hc5 => ?_) (fun hc5 => ?_)
    · have hf := bb_e hf hc5
      refine z_aload_n (pc := 40) (i := 0) C 2 dX3_readPerson_40 rfl rfl ?_
      refine z_iconst (pc := 41) C (0 : Int32) dX3_readPerson_41 (by decide) ?_
      refine z_bipush (pc := 42) C (9 : Int32) dX3_readPerson_42 (by decide) ?_
      obtain ⟨q6, hq6, hf⟩ := bb_b_some hf
      refine z_callVi (pc := 44) (ci := 3) (q0 := 0) (As := [.int ((0 : Int32)), .int ((9 : Int32))]) (rest := []) (ws' := wX3 X.cs h q6.2 ++ wX0 X.cs g q4.2.2) C (hR.le (by decide)) (c_X3_readDigit h hq6) (cut_X3X0_0 _ _ _ _ _ _) bv_X3_readDigit bm_X3_37 rfl rfl rfl rfl (Nat.le_of_ble_eq_true rfl) dX3_readPerson_44 ?_
      refine z_istore (pc := 47) (lv' := [(4, .int q6.1), (3, .int q4.1), (2, .int q2), (0, .ref (h 0)), (1, .ref (g 0))]) C dX3_readPerson_47 (by decide) rfl ?_
      refine z_iload (pc := 49) C 0 dX3_readPerson_49 rfl ?_
      refine z_bipush (pc := 51) C (-4 : Int32) dX3_readPerson_51 (by decide) ?_
      refine z_icmp_ne (pc := 53) C 58 dX3_readPerson_53 (by decide) (fun hc7 => ?_) (fun hc7 => ?_)
      · have hf := bb_e hf hc7
        refine z_aload_n (pc := 58) (i := 1) C 4 dX3_readPerson_58 rfl rfl ?_
        refine z_iload_n (pc := 59) (i := 2) C 2 dX3_readPerson_59 rfl rfl ?_
        refine z_iload_n (pc := 60) (i := 3) C 1 dX3_readPerson_60 rfl rfl ?_
        refine z_iload (pc := 61) C 0 dX3_readPerson_61 rfl ?_
        refine z_aload_n (pc := 63) (i := 0) C 3 dX3_readPerson_63 rfl rfl ?_
        obtain ⟨q8, hq8, hf⟩ := bb_b_some hf
        refine z_callVi (pc := 64) (ci := 3) (q0 := 0) (As := []) (rest := [.int q6.1, .int q4.1, .int q2, .ref (g 0)]) (ws' := wX3 X.cs h q8.2 ++ wX0 X.cs g q4.2.2) C (hR.le (by decide)) (c_X3_readFeatures h hq8) (cut_X3X0_0 _ _ _ _ _ _) bv_X3_readFeatures bm_X3_67 rfl rfl rfl rfl (Nat.le_of_ble_eq_true rfl) dX3_readPerson_64 ?_
        obtain ⟨q9, hq9, hf⟩ := bb_b_some hf
        refine z_callVi (pc := 67) (ci := 0) (q0 := 0) (As := [.int q2, .int q4.1, .int q6.1, .int q8.1]) (rest := []) (ws' := wX3 X.cs h q8.2 ++ wX0 X.cs g q9.2) C (hR.le (by decide)) (c_X0_enter g hq9) (cut_X3X0_1 _ _ _ _ _ _) bv_X0_enter bm_X3_71 rfl rfl rfl rfl (Nat.le_of_ble_eq_true rfl) dX3_readPerson_67 ?_
        refine z_pop (pc := 70) C dX3_readPerson_70 rfl ?_
        refine z_iconst (pc := 71) C (1 : Int32) dX3_readPerson_71 (by decide) ?_
        obtain rfl := Option.some.inj hf
        exact z_zret (pc := 72) C hr (bb_nz (Or.inr rfl)) R dX3_readPerson_72
      · have hf := bb_t hf hc7
        refine z_iconst (pc := 56) C (0 : Int32) dX3_readPerson_56 (by decide) ?_
        obtain rfl := Option.some.inj hf
        exact z_zret (pc := 57) C hr (bb_nz (Or.inl rfl)) R dX3_readPerson_57
    · have hf := bb_t hf hc5
      refine z_iconst (pc := 38) C (0 : Int32) dX3_readPerson_38 (by decide) ?_
      obtain rfl := Option.some.inj hf
      exact z_zret (pc := 39) C hr (bb_nz (Or.inl rfl)) R dX3_readPerson_39
  · have hf := bb_e hf hc3
    refine z_iconst (pc := 14) C (0 : Int32) dX3_readPerson_14 (by decide) ?_
    obtain rfl := Option.some.inj hf
    exact z_zret (pc := 15) C hr (bb_nz (Or.inl rfl)) R dX3_readPerson_15
theorem c_X3_readPerson {l : Launch} {D : va_G} {cs : Nat → ClassId} (h : Nat → Nat) (g : Nat → Nat) (a b : Nat) {s0 : bb_O} {s1 : bb_O} {z : (Int32 × (bb_O × bb_O))} (hf : F_X3_readPerson_0 s0 s1 = some z) : bb_MS a b l yX3_readPerson cX3_readPerson 5 (some .boolean) 5 D cs [.ref (h 0), .ref (g 0)] (some (.int z.1)) (wX3 cs h s0 ++ wX0 cs g s1) (wX3 cs h z.2.1 ++ wX0 cs g z.2.2) := bb_mgS (by decide) rfl (Nat.le_of_ble_eq_true rfl) rfl (fun X hl hD hcs C hR hr R hE => by
  subst hl
  subst hD
  subst hcs
  exact B_X3_readPerson_0 C hR hr h g a b hE R hf)
/-! X3_readInto: writes, level 6 -/
noncomputable def F_X3_readInto_22 (s0 : bb_O) (s1 : bb_O) : Option (Int32 × (bb_O × bb_O)) := some ((0 : Int32), (s0, s1))
set_option maxHeartbeats 4000000 in
set_option maxRecDepth 100000 in
theorem B_X3_readInto_22 {X : bb_X} (C : bb_C X RX3 cX3_readInto 3) (hR : bb_r X 6) (hr : X.meth.sig.returnType = (some .boolean)) (h : Nat → Nat) (g : Nat → Nat) (a b : Nat) (hE : bb_S a b X.A X.s X.s.heap) {z : (Int32 × (bb_O × bb_O))} (R : bb_R X (some (.int z.1)) (wX3 X.cs h z.2.1 ++ wX0 X.cs g z.2.2)) {s0 : bb_O} {s1 : bb_O} (hf : F_X3_readInto_22 s0 s1 = some z) : bb_Z X 3 (wX3 X.cs h s0 ++ wX0 X.cs g s1) 22 [] [] := by
  refine z_iconst (pc := 22) C (0 : Int32) dX3_readInto_22 (by decide) ?_
  obtain rfl := Option.some.inj hf
  exact z_zret (pc := 23) C hr (bb_nz (Or.inl rfl)) R dX3_readInto_23
noncomputable def F_X3_readInto_66 (s0 : bb_O) (s1 : bb_O) : Option (Int32 × (bb_O × bb_O)) := some ((0 : Int32), (s0, s1))
set_option maxHeartbeats 4000000 in
set_option maxRecDepth 100000 in
theorem B_X3_readInto_66 {X : bb_X} (C : bb_C X RX3 cX3_readInto 3) (hR : bb_r X 6) (hr : X.meth.sig.returnType = (some .boolean)) (h : Nat → Nat) (g : Nat → Nat) (a b : Nat) (hE : bb_S a b X.A X.s X.s.heap) {z : (Int32 × (bb_O × bb_O))} (R : bb_R X (some (.int z.1)) (wX3 X.cs h z.2.1 ++ wX0 X.cs g z.2.2)) {s0 : bb_O} {s1 : bb_O} (hf : F_X3_readInto_66 s0 s1 = some z) : bb_Z X 3 (wX3 X.cs h s0 ++ wX0 X.cs g s1) 66 [] [] := by
  refine z_iconst (pc := 66) C (0 : Int32) dX3_readInto_66 (by decide) ?_
  obtain rfl := Option.some.inj hf
  exact z_zret (pc := 67) C hr (bb_nz (Or.inl rfl)) R dX3_readInto_67
noncomputable def G_X3_readInto_26 (k26 : bb_O → bb_O → Int32 → Option (Int32 × (bb_O × bb_O))) (s0 : bb_O) (s1 : bb_O) (x2 : Int32) : Option (Int32 × (bb_O × bb_O)) := if ((6 : Int32)) < x2 then (some ((0 : Int32), (s0, s1))) else ((F_X3_readPerson_0 s0 s1).bind (fun q2 => if q2.1 = 0 then (some ((0 : Int32), (q2.2.1, q2.2.2))) else ((F_X3_peek_e q2.2.1).bind (fun q4 => if q4.1 = 0 then (some ((1 : Int32), (q4.2, q2.2.2))) else (if x2 = ((6 : Int32)) then (F_X3_readInto_66 q4.2 q2.2.2) else ((F_X3_readSign_0 q4.2 ((44 : Int32))).bind (fun q7 => if q7.1 = 0 then (F_X3_readInto_66 q7.2 q2.2.2) else (k26 q7.2 q2.2.2 (x2 + 1)))))))))
noncomputable def F_X3_readInto_26  : Nat → bb_O → bb_O → Int32 → Option (Int32 × (bb_O × bb_O))
  | 0, _, _, _ => none
  | n + 1, s0, s1, x2 => G_X3_readInto_26  (F_X3_readInto_26  n) s0 s1 x2
set_option maxHeartbeats 4000000 in
set_option maxRecDepth 100000 in
theorem A_X3_readInto_26 {X : bb_X} (C : bb_C X RX3 cX3_readInto 3) (hR : bb_r X 6) (hr : X.meth.sig.returnType = (some .boolean)) (h : Nat → Nat) (g : Nat → Nat) (a b : Nat) (hE : bb_S a b X.A X.s X.s.heap) {z : (Int32 × (bb_O × bb_O))} (R : bb_R X (some (.int z.1)) (wX3 X.cs h z.2.1 ++ wX0 X.cs g z.2.2)) {k26 : bb_O → bb_O → Int32 → Option (Int32 × (bb_O × bb_O))} (hk26 : ∀ (s0 : bb_O) (s1 : bb_O) (x2 : Int32), k26 s0 s1 x2 = some z → bb_Z X 3 (wX3 X.cs h s0 ++ wX0 X.cs g s1) 26 [(0, .ref (h 0)), (1, .ref (g 0)), (2, .int x2)] []) {s0 : bb_O} {s1 : bb_O} {x2 : Int32} (hf : G_X3_readInto_26 k26 s0 s1 x2 = some z) : bb_Z X 3 (wX3 X.cs h s0 ++ wX0 X.cs g s1) 26 [(0, .ref (h 0)), (1, .ref (g 0)), (2, .int x2)] [] := by
  refine z_iload_n (pc := 26) (i := 2) C 2 dX3_readInto_26 rfl rfl ?_
  refine z_bipush (pc := 27) C (6 : Int32) dX3_readInto_27 (by decide) ?_
  refine z_icmp_gt (pc := 29) C 74 dX3_readInto_29 (by decide) (fun hc1 => ?_) (fun hc1 => ?_)
  · have hf := bb_t hf hc1
    refine z_iconst (pc := 74) C (0 : Int32) dX3_readInto_74 (by decide) ?_
    obtain rfl := Option.some.inj hf
    exact z_zret (pc := 75) C hr (bb_nz (Or.inl rfl)) R dX3_readInto_75
  · have hf := bb_e hf hc1
    refine z_aload_n (pc := 32) (i := 0) C 0 dX3_readInto_32 rfl rfl ?_
    refine z_aload_n (pc := 33) (i := 1) C 1 dX3_readInto_33 rfl rfl ?_
    obtain ⟨q2, hq2, hf⟩ := bb_b_some hf
    refine z_callVS (pc := 34) (ci := 3) (q0 := 0) (As := [.ref (g 0)]) (rest := []) (ws' := wX3 X.cs h q2.2.1 ++ wX0 X.cs g q2.2.2) C hE (hR.le (by decide)) (c_X3_readPerson h g a b hq2) (bb_cut_self _ _) bv_X3_readPerson bm_X3_30 rfl rfl rfl rfl (Nat.le_of_ble_eq_true rfl) dX3_readInto_34 ?_
    refine z_if_ne (pc := 37) C 42 dX3_readInto_37 (by decide) (fun hc3 => ?_) (fun hc3 => ?_)
    · have hf := bb_e hf hc3
      refine z_aload_n (pc := 42) (i := 0) C 0 dX3_readInto_42 rfl rfl ?_
      obtain ⟨q4, hq4, hf⟩ := bb_b_some hf
      refine z_callVi (pc := 43) (ci := 3) (q0 := 0) (As := []) (rest := []) (ws' := wX3 X.cs h q4.2 ++ wX0 X.cs g q2.2.2) C (hR.le (by decide)) (c_X3_peek h hq4) (cut_X3X0_0 _ _ _ _ _ _) bv_X3_peek bm_X3_33 rfl rfl rfl rfl (Nat.le_of_ble_eq_true rfl) dX3_readInto_43 ?_
      refine z_if_ne (pc := 46) C 51 dX3_readInto_46 (by decide) (fun hc5 => ?_) (fun hc5 => ?_)
      · have hf := bb_e hf hc5
        refine z_iload_n (pc := 51) (i := 2) C 2 dX3_readInto_51 rfl rfl ?_
        refine z_bipush (pc := 52) C (6 : Int32) dX3_readInto_52 (by decide) ?_
        refine z_icmp_eq (pc := 54) C 66 dX3_readInto_54 (by decide) (fun hc6 => ?_) (fun hc6 => ?_)
        · have hf := bb_t hf hc6
          refine z_lv [] rfl ?_
          exact B_X3_readInto_66 C hR hr h g a b hE R  hf
        · have hf := bb_e hf hc6
          refine z_aload_n (pc := 57) (i := 0) C 0 dX3_readInto_57 rfl rfl ?_
          refine z_bipush (pc := 58) C (44 : Int32) dX3_readInto_58 (by decide) ?_
          obtain ⟨q7, hq7, hf⟩ := bb_b_some hf
          refine z_callVi (pc := 60) (ci := 3) (q0 := 0) (As := [.int ((44 : Int32))]) (rest := []) (ws' := wX3 X.cs h q7.2 ++ wX0 X.cs g q2.2.2) C (hR.le (by decide)) (c_X3_readSign h hq7) (cut_X3X0_0 _ _ _ _ _ _) bv_X3_readSign bm_X3_26 rfl rfl rfl rfl (Nat.le_of_ble_eq_true rfl) dX3_readInto_60 ?_
          refine z_if_ne (pc := 63) C 68 dX3_readInto_63 (by decide) (fun hc8 => ?_) (fun hc8 => ?_)
          · have hf := bb_e hf hc8
            refine z_iinc (pc := 68) (lv' := [(2, .int (x2 + 1)), (0, .ref (h 0)), (1, .ref (g 0))]) C (x2 + 1) 2 dX3_readInto_68 rfl rfl (by decide) rfl ?_
            refine z_goto (pc := 71) C 26 dX3_readInto_71 (by decide) ?_
            refine z_lv [1, 2, 0] rfl ?_
            exact hk26 _ _ _ hf
          · have hf := bb_t hf hc8
            refine z_lv [] rfl ?_
            exact B_X3_readInto_66 C hR hr h g a b hE R  hf
      · have hf := bb_t hf hc5
        refine z_iconst (pc := 49) C (1 : Int32) dX3_readInto_49 (by decide) ?_
        obtain rfl := Option.some.inj hf
        exact z_zret (pc := 50) C hr (bb_nz (Or.inr rfl)) R dX3_readInto_50
    · have hf := bb_t hf hc3
      refine z_iconst (pc := 40) C (0 : Int32) dX3_readInto_40 (by decide) ?_
      obtain rfl := Option.some.inj hf
      exact z_zret (pc := 41) C hr (bb_nz (Or.inl rfl)) R dX3_readInto_41
theorem B_X3_readInto_26 {X : bb_X} (C : bb_C X RX3 cX3_readInto 3) (hR : bb_r X 6) (hr : X.meth.sig.returnType = (some .boolean)) (h : Nat → Nat) (g : Nat → Nat) (a b : Nat) (hE : bb_S a b X.A X.s X.s.heap) {z : (Int32 × (bb_O × bb_O))} (R : bb_R X (some (.int z.1)) (wX3 X.cs h z.2.1 ++ wX0 X.cs g z.2.2)) : ∀ (n : Nat) (s0 : bb_O) (s1 : bb_O) (x2 : Int32), F_X3_readInto_26  n s0 s1 x2 = some z → bb_Z X 3 (wX3 X.cs h s0 ++ wX0 X.cs g s1) 26 [(0, .ref (h 0)), (1, .ref (g 0)), (2, .int x2)] [] := by
  intro n
  induction n with
  | zero =>
    intro s0 s1 x2 hf
    cases hf
  | succ n ih =>
    intro s0 s1 x2 hf
    exact A_X3_readInto_26 C hR hr h g a b hE R  ih hf
noncomputable def F_X3_readInto_0 (s0 : bb_O) (s1 : bb_O) : Option (Int32 × (bb_O × bb_O)) := (F_X3_readStreets_0 (bb_sf s0 2 ((0 : Int32))) s1).bind (fun q1 => if q1.1 = 0 then (F_X3_readInto_22 q1.2.1 q1.2.2) else ((F_X3_readSign_0 q1.2.1 ((59 : Int32))).bind (fun q3 => if q3.1 = 0 then (F_X3_readInto_22 q3.2 q1.2.2) else (F_X3_readInto_26 bb_N q3.2 q1.2.2 ((1 : Int32))))))
set_option maxHeartbeats 4000000 in
set_option maxRecDepth 100000 in
theorem B_X3_readInto_0 {X : bb_X} (C : bb_C X RX3 cX3_readInto 3) (hR : bb_r X 6) (hr : X.meth.sig.returnType = (some .boolean)) (h : Nat → Nat) (g : Nat → Nat) (a b : Nat) (hE : bb_S a b X.A X.s X.s.heap) {z : (Int32 × (bb_O × bb_O))} (R : bb_R X (some (.int z.1)) (wX3 X.cs h z.2.1 ++ wX0 X.cs g z.2.2)) {s0 : bb_O} {s1 : bb_O} (hf : F_X3_readInto_0 s0 s1 = some z) : bb_Z X 3 (wX3 X.cs h s0 ++ wX0 X.cs g s1) 0 [(0, .ref (h 0)), (1, .ref (g 0))] [] := by
  refine z_aload_n (pc := 0) (i := 0) C 0 dX3_readInto_0 rfl rfl ?_
  refine z_iconst (pc := 1) C (0 : Int32) dX3_readInto_1 (by decide) ?_
  refine z_put (pc := 2) (ci := 3) (ty := .int) (ws' := wX3 X.cs h (bb_sf s0 2 ((0 : Int32))) ++ wX0 X.cs g s1) C bi_X3 tyX3_ok nmX3 rfl 0 2 (by decide) rfl bf_X3_19 rfl rfl rfl rfl rfl (Nat.le_of_ble_eq_true rfl) rfl dX3_readInto_2 ?_
  refine z_aload_n (pc := 5) (i := 0) C 0 dX3_readInto_5 rfl rfl ?_
  refine z_aload_n (pc := 6) (i := 1) C 1 dX3_readInto_6 rfl rfl ?_
  obtain ⟨q1, hq1, hf⟩ := bb_b_some hf
  refine z_callVi (pc := 7) (ci := 3) (q0 := 0) (As := [.ref (g 0)]) (rest := []) (ws' := wX3 X.cs h q1.2.1 ++ wX0 X.cs g q1.2.2) C (hR.le (by decide)) (c_X3_readStreets h g hq1) (bb_cut_self _ _) bv_X3_readStreets bm_X3_22 rfl rfl rfl rfl (Nat.le_of_ble_eq_true rfl) dX3_readInto_7 ?_
  refine z_if_eq (pc := 10) C 22 dX3_readInto_10 (by decide) (fun hc2 => ?_) (fun hc2 => ?_)
  · have hf := bb_t hf hc2
    refine z_lv [] rfl ?_
    exact B_X3_readInto_22 C hR hr h g a b hE R  hf
  · have hf := bb_e hf hc2
    refine z_aload_n (pc := 13) (i := 0) C 0 dX3_readInto_13 rfl rfl ?_
    refine z_bipush (pc := 14) C (59 : Int32) dX3_readInto_14 (by decide) ?_
    obtain ⟨q3, hq3, hf⟩ := bb_b_some hf
    refine z_callVi (pc := 16) (ci := 3) (q0 := 0) (As := [.int ((59 : Int32))]) (rest := []) (ws' := wX3 X.cs h q3.2 ++ wX0 X.cs g q1.2.2) C (hR.le (by decide)) (c_X3_readSign h hq3) (cut_X3X0_0 _ _ _ _ _ _) bv_X3_readSign bm_X3_26 rfl rfl rfl rfl (Nat.le_of_ble_eq_true rfl) dX3_readInto_16 ?_
    refine z_if_ne (pc := 19) C 24 dX3_readInto_19 (by decide) (fun hc4 => ?_) (fun hc4 => ?_)
    · have hf := bb_e hf hc4
      refine z_iconst (pc := 24) C (1 : Int32) dX3_readInto_24 (by decide) ?_
      refine z_istore_n (pc := 25) (i := 2) (lv' := [(2, .int ((1 : Int32))), (0, .ref (h 0)), (1, .ref (g 0))]) C dX3_readInto_25 rfl (by decide) rfl ?_
      refine z_lv [1, 2, 0] rfl ?_
      exact B_X3_readInto_26 C hR hr h g a b hE R  bb_N _ _ _ hf
    · have hf := bb_t hf hc4
      refine z_lv [] rfl ?_
      exact B_X3_readInto_22 C hR hr h g a b hE R  hf
theorem c_X3_readInto {l : Launch} {D : va_G} {cs : Nat → ClassId} (h : Nat → Nat) (g : Nat → Nat) (a b : Nat) {s0 : bb_O} {s1 : bb_O} {z : (Int32 × (bb_O × bb_O))} (hf : F_X3_readInto_0 s0 s1 = some z) : bb_MS a b l yX3_readInto cX3_readInto 3 (some .boolean) 6 D cs [.ref (h 0), .ref (g 0)] (some (.int z.1)) (wX3 cs h s0 ++ wX0 cs g s1) (wX3 cs h z.2.1 ++ wX0 cs g z.2.2) := bb_mgS (by decide) rfl (Nat.le_of_ble_eq_true rfl) rfl (fun X hl hD hcs C hR hr R hE => by
  subst hl
  subst hD
  subst hcs
  exact B_X3_readInto_0 C hR hr h g a b hE R hf)
/-! X4_city: writes, level 7 -/
noncomputable def F_X4_city_78 (s0 : bb_H) (x2 : Int32) : Option (Int32 × bb_H) := some (x2, s0)
set_option maxHeartbeats 4000000 in
set_option maxRecDepth 100000 in
theorem B_X4_city_78 {X : bb_X} (C : bb_C X RX4 cX4_city 3) (hR : bb_r X 7) (hr : X.meth.sig.returnType = (some .int)) (h : Nat → Nat → Nat) (a b : Nat) (hE : bb_S a b X.A X.s X.s.heap) {z : (Int32 × bb_H)} (R : bb_R X (some (.int z.1)) (wX4 X.cs h z.2)) {s0 : bb_H} {x2 : Int32} (hf : F_X4_city_78 s0 x2 = some z) : bb_Z X 3 (wX4 X.cs h s0) 78 [(2, .int x2)] [] := by
  refine z_iload_n (pc := 78) (i := 2) C 0 dX4_city_78 rfl rfl ?_
  obtain rfl := Option.some.inj hf
  exact z_iret (pc := 79) C hr R dX4_city_79
noncomputable def F_X4_city_47 (s0 : bb_H) (x1 : Int32) (y0 : Int32) : Option (Int32 × bb_H) := if x1 = 0 then (F_X4_city_78 (va_up s0 6 (bb_sf ((s0 6)) 1 ((0 : Int32)))) y0) else ((F_X0_take_0 (((va_up s0 6 (bb_sf ((s0 6)) 1 ((0 : Int32)))) 0)) (((va_up s0 6 (bb_sf ((s0 6)) 1 ((0 : Int32)))) 2))).bind (fun q2 => (F_X1_forget_0 (((va_up (va_up (va_up s0 6 (bb_sf ((s0 6)) 1 ((0 : Int32)))) 0 q2.1) 2 q2.2) 1))).bind (fun q3 => F_X4_city_78 (va_up (va_up (va_up (va_up s0 6 (bb_sf ((s0 6)) 1 ((0 : Int32)))) 0 q2.1) 2 q2.2) 1 q3) y0)))
set_option maxHeartbeats 4000000 in
set_option maxRecDepth 100000 in
theorem B_X4_city_47 {X : bb_X} (C : bb_C X RX4 cX4_city 3) (hR : bb_r X 7) (hr : X.meth.sig.returnType = (some .int)) (h : Nat → Nat → Nat) (a b : Nat) (hE : bb_S a b X.A X.s X.s.heap) {z : (Int32 × bb_H)} (R : bb_R X (some (.int z.1)) (wX4 X.cs h z.2)) {s0 : bb_H} {x1 : Int32} {y0 : Int32} (hf : F_X4_city_47 s0 x1 y0 = some z) : bb_Z X 3 (wX4 X.cs h s0) 47 [(0, .ref (h 5 0)), (1, .int x1)] [.int y0] := by
  refine z_istore_n (pc := 47) (i := 2) (lv' := [(2, .int y0), (0, .ref (h 5 0)), (1, .int x1)]) C dX4_city_47 rfl (by decide) rfl ?_
  refine z_aload_n (pc := 48) (i := 0) C 1 dX4_city_48 rfl rfl ?_
  refine z_get (pc := 49) (ci := 4) C (.ref (h 6 0)) bi_X4 rfl 0 6 (by decide) rfl bf_X4_35 rfl rfl dX4_city_49 ?_
  refine z_iconst (pc := 52) C (0 : Int32) dX4_city_52 (by decide) ?_
  refine z_put (pc := 53) (ci := 3) (ty := .int) (ws' := wX4 X.cs h (va_up s0 6 (bb_sf ((s0 6)) 1 ((0 : Int32))))) C bi_X3 tyX3_ok nmX3 rfl 40 1 (by decide) rfl bf_X4_105 rfl rfl rfl rfl rfl (Nat.le_of_ble_eq_true rfl) rfl dX4_city_53 ?_
  refine z_iload_n (pc := 56) (i := 1) C 2 dX4_city_56 rfl rfl ?_
  refine z_if_eq (pc := 57) C 78 dX4_city_57 (by decide) (fun hc1 => ?_) (fun hc1 => ?_)
  · have hf := bb_t hf hc1
    refine z_lv [0] rfl ?_
    exact B_X4_city_78 C hR hr h a b hE R  hf
  · have hf := bb_e hf hc1
    refine z_aload_n (pc := 60) (i := 0) C 1 dX4_city_60 rfl rfl ?_
    refine z_get (pc := 61) (ci := 4) C (.ref (h 0 0)) bi_X4 rfl 0 0 (by decide) rfl bf_X4_10 rfl rfl dX4_city_61 ?_
    refine z_aload_n (pc := 64) (i := 0) C 1 dX4_city_64 rfl rfl ?_
    refine z_get (pc := 65) (ci := 4) C (.ref (h 2 0)) bi_X4 rfl 0 2 (by decide) rfl bf_X4_23 rfl rfl dX4_city_65 ?_
    obtain ⟨q2, hq2, hf⟩ := bb_b_some hf
    refine z_callVv (pc := 68) (ci := 0) (q0 := 0) (As := [.ref (h 2 0)]) (rest := []) (ws' := wX4 X.cs h (va_up (va_up (va_up s0 6 (bb_sf ((s0 6)) 1 ((0 : Int32)))) 0 q2.1) 2 q2.2)) C (hR.le (by decide)) (c_X0_take (h 0) (h 2) hq2) (cut_X4_0_2 _ _ _ _ _) bv_X0_take bm_X4_111 rfl rfl rfl rfl (Nat.le_of_ble_eq_true rfl) dX4_city_68 ?_
    refine z_aload_n (pc := 71) (i := 0) C 1 dX4_city_71 rfl rfl ?_
    refine z_get (pc := 72) (ci := 4) C (.ref (h 1 0)) bi_X4 rfl 0 1 (by decide) rfl bf_X4_19 rfl rfl dX4_city_72 ?_
    obtain ⟨q3, hq3, hf⟩ := bb_b_some hf
    refine z_callVv (pc := 75) (ci := 1) (q0 := 0) (As := []) (rest := []) (ws' := wX4 X.cs h (va_up (va_up (va_up (va_up s0 6 (bb_sf ((s0 6)) 1 ((0 : Int32)))) 0 q2.1) 2 q2.2) 1 q3)) C (hR.le (by decide)) (c_X1_forget (h 1) hq3) (cut_X4_1 _ _ _ _) bv_X1_forget bm_X4_54 rfl rfl rfl rfl (Nat.le_of_ble_eq_true rfl) dX4_city_75 ?_
    refine z_lv [0] rfl ?_
    exact B_X4_city_78 C hR hr h a b hE R  hf
noncomputable def F_X4_city_0 (s0 : bb_H) : Option (Int32 × bb_H) := (F_X0_take_0 ((s0 2)) ((s0 0))).bind (fun q1 => (F_X3_readInto_0 (((va_up (va_up s0 2 q1.1) 0 q1.2) 6)) (((va_up (va_up s0 2 q1.1) 0 q1.2) 2))).bind (fun q2 => if q2.1 = 0 then (F_X4_city_47 (va_up (va_up (va_up (va_up s0 2 q1.1) 0 q1.2) 6 q2.2.1) 2 q2.2.2) q2.1 (((-20 : Int32)) - ((((va_up (va_up (va_up (va_up s0 2 q1.1) 0 q1.2) 6 q2.2.1) 2 q2.2.2) 6)).1 2))) else (F_X4_city_47 (va_up (va_up (va_up (va_up s0 2 q1.1) 0 q1.2) 6 q2.2.1) 2 q2.2.2) q2.1 ((((va_up (va_up (va_up (va_up s0 2 q1.1) 0 q1.2) 6 q2.2.1) 2 q2.2.2) 2)).1 2))))
set_option maxHeartbeats 4000000 in
set_option maxRecDepth 100000 in
theorem B_X4_city_0 {X : bb_X} (C : bb_C X RX4 cX4_city 3) (hR : bb_r X 7) (hr : X.meth.sig.returnType = (some .int)) (h : Nat → Nat → Nat) (a b : Nat) (hE : bb_S a b X.A X.s X.s.heap) {z : (Int32 × bb_H)} (R : bb_R X (some (.int z.1)) (wX4 X.cs h z.2)) {s0 : bb_H} (hf : F_X4_city_0 s0 = some z) : bb_Z X 3 (wX4 X.cs h s0) 0 [(0, .ref (h 5 0))] [] := by
  refine z_aload_n (pc := 0) (i := 0) C 0 dX4_city_0 rfl rfl ?_
  refine z_get (pc := 1) (ci := 4) C (.ref (h 2 0)) bi_X4 rfl 0 2 (by decide) rfl bf_X4_23 rfl rfl dX4_city_1 ?_
  refine z_aload_n (pc := 4) (i := 0) C 0 dX4_city_4 rfl rfl ?_
  refine z_get (pc := 5) (ci := 4) C (.ref (h 0 0)) bi_X4 rfl 0 0 (by decide) rfl bf_X4_10 rfl rfl dX4_city_5 ?_
  obtain ⟨q1, hq1, hf⟩ := bb_b_some hf
  refine z_callVv (pc := 8) (ci := 0) (q0 := 0) (As := [.ref (h 0 0)]) (rest := []) (ws' := wX4 X.cs h (va_up (va_up s0 2 q1.1) 0 q1.2)) C (hR.le (by decide)) (c_X0_take (h 2) (h 0) hq1) (cut_X4_2_0 _ _ _ _ _) bv_X0_take bm_X4_111 rfl rfl rfl rfl (Nat.le_of_ble_eq_true rfl) dX4_city_8 ?_
  refine z_aload_n (pc := 11) (i := 0) C 0 dX4_city_11 rfl rfl ?_
  refine z_get (pc := 12) (ci := 4) C (.ref (h 6 0)) bi_X4 rfl 0 6 (by decide) rfl bf_X4_35 rfl rfl dX4_city_12 ?_
  refine z_aload_n (pc := 15) (i := 0) C 0 dX4_city_15 rfl rfl ?_
  refine z_get (pc := 16) (ci := 4) C (.ref (h 2 0)) bi_X4 rfl 0 2 (by decide) rfl bf_X4_23 rfl rfl dX4_city_16 ?_
  obtain ⟨q2, hq2, hf⟩ := bb_b_some hf
  refine z_callVS (pc := 19) (ci := 3) (q0 := 0) (As := [.ref (h 2 0)]) (rest := []) (ws' := wX4 X.cs h (va_up (va_up (va_up (va_up s0 2 q1.1) 0 q1.2) 6 q2.2.1) 2 q2.2.2)) C hE (hR.le (by decide)) (c_X3_readInto (h 6) (h 2) a b hq2) (cut_X4_6_2 _ _ _ _ _) bv_X3_readInto bm_X4_115 rfl rfl rfl rfl (Nat.le_of_ble_eq_true rfl) dX4_city_19 ?_
  refine z_istore_n (pc := 22) (i := 1) (lv' := [(1, .int q2.1), (0, .ref (h 5 0))]) C dX4_city_22 rfl (by decide) rfl ?_
  refine z_iload_n (pc := 23) (i := 1) C 0 dX4_city_23 rfl rfl ?_
  refine z_if_eq (pc := 24) C 37 dX4_city_24 (by decide) (fun hc3 => ?_) (fun hc3 => ?_)
  · have hf := bb_t hf hc3
    refine z_bipush (pc := 37) C (-20 : Int32) dX4_city_37 (by decide) ?_
    refine z_aload_n (pc := 39) (i := 0) C 1 dX4_city_39 rfl rfl ?_
    refine z_get (pc := 40) (ci := 4) C (.ref (h 6 0)) bi_X4 rfl 0 6 (by decide) rfl bf_X4_35 rfl rfl dX4_city_40 ?_
    refine z_get (pc := 43) (ci := 3) C (.int ((((va_up (va_up (va_up (va_up s0 2 q1.1) 0 q1.2) 6 q2.2.1) 2 q2.2.2) 6)).1 2)) bi_X3 rfl 40 2 (by decide) rfl bf_X4_119 rfl rfl dX4_city_43 ?_
    refine z_isub (pc := 46) C dX4_city_46 ?_
    refine z_lv [1, 0] rfl ?_
    exact B_X4_city_47 C hR hr h a b hE R  hf
  · have hf := bb_e hf hc3
    refine z_aload_n (pc := 27) (i := 0) C 1 dX4_city_27 rfl rfl ?_
    refine z_get (pc := 28) (ci := 4) C (.ref (h 2 0)) bi_X4 rfl 0 2 (by decide) rfl bf_X4_23 rfl rfl dX4_city_28 ?_
    refine z_get (pc := 31) (ci := 0) C (.int ((((va_up (va_up (va_up (va_up s0 2 q1.1) 0 q1.2) 6 q2.2.1) 2 q2.2.2) 2)).1 2)) bi_X0 rfl 18 2 (by decide) rfl bf_X4_61 rfl rfl dX4_city_31 ?_
    refine z_goto (pc := 34) C 47 dX4_city_34 (by decide) ?_
    refine z_lv [1, 0] rfl ?_
    exact B_X4_city_47 C hR hr h a b hE R  hf
theorem c_X4_city {l : Launch} {D : va_G} {cs : Nat → ClassId} (h : Nat → Nat → Nat) (a b : Nat) {s0 : bb_H} {z : (Int32 × bb_H)} (hf : F_X4_city_0 s0 = some z) : bb_MS a b l yX4_city cX4_city 3 (some .int) 7 D cs [.ref (h 5 0)] (some (.int z.1)) (wX4 cs h s0) (wX4 cs h z.2) := bb_mgS (by decide) rfl (Nat.le_of_ble_eq_true rfl) rfl (fun X hl hD hcs C hR hr R hE => by
  subst hl
  subst hD
  subst hcs
  exact B_X4_city_0 C hR hr h a b hE R hf)
