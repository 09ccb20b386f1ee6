/-! X1_forget: writes, level 1 -/
noncomputable def F_X1_forget_0 (s0 : bb_O) : Option (bb_O) := some (bb_sf s0 2 ((0 : Int32)))
set_option maxHeartbeats 4000000 in
set_option maxRecDepth 100000 in
theorem B_X1_forget_0 {X : bb_X} (C : bb_C X RX1 cX1_forget 1) (hR : bb_r X 1) (hr : X.meth.sig.returnType = none) (h : Nat → Nat) {z : (bb_O)} (R : bb_R X none (wX1 X.cs h z)) {s0 : bb_O} (hf : F_X1_forget_0 s0 = some z) : bb_Z X 1 (wX1 X.cs h s0) 0 [(0, .ref (h 0))] [] := by
  refine z_aload_n (pc := 0) (i := 0) C 0 dX1_forget_0 rfl rfl ?_
  refine z_iconst (pc := 1) C (0 : Int32) dX1_forget_1 (by decide) ?_
  refine z_put (pc := 2) (ci := 1) (ty := .int) (ws' := wX1 X.cs h (bb_sf s0 2 ((0 : Int32)))) C bi_X1 tyX1_ok nmX1 rfl 0 2 (by decide) rfl bf_X1_16 rfl rfl rfl rfl rfl (Nat.le_of_ble_eq_true rfl) rfl dX1_forget_2 ?_
  obtain rfl := Option.some.inj hf
  exact z_vret (pc := 5) C hr R dX1_forget_5
theorem c_X1_forget {l : Launch} {D : va_G} {cs : Nat → ClassId} (h : Nat → Nat) {s0 : bb_O} {z : (bb_O)} (hf : F_X1_forget_0 s0 = some z) : bb_M l yX1_forget cX1_forget 1 none 1 D cs [.ref (h 0)] none (wX1 cs h s0) (wX1 cs h z) := bb_mg (by decide) rfl (Nat.le_of_ble_eq_true rfl) rfl (fun X hl hD hcs C hR hr R => by
  subst hl
  subst hD
  subst hcs
  exact B_X1_forget_0 C hR hr h R hf)
/-! X1_keep: writes, level 1 -/
noncomputable def F_X1_keep_98 (s0 : bb_O) (s1 : bb_O) : Option (bb_O × bb_O) := some (s0, s1)
set_option maxHeartbeats 4000000 in
set_option maxRecDepth 100000 in
theorem B_X1_keep_98 {X : bb_X} (C : bb_C X RX1 cX1_keep 3) (hR : bb_r X 1) (hr : X.meth.sig.returnType = none) (h : Nat → Nat) (g : Nat → Nat) {z : (bb_O × bb_O)} (R : bb_R X none (wX1 X.cs h z.1 ++ wX0 X.cs g z.2)) {s0 : bb_O} {s1 : bb_O} (hf : F_X1_keep_98 s0 s1 = some z) : bb_Z X 3 (wX1 X.cs h s0 ++ wX0 X.cs g s1) 98 [] [] := by
  obtain rfl := Option.some.inj hf
  exact z_vret (pc := 98) C hr R dX1_keep_98
noncomputable def F_X1_keep_83 (s0 : bb_O) (s1 : bb_O) : Option (bb_O × bb_O) := F_X1_keep_98 (bb_sf s0 2 (if ((8 : Int32)) < ((s0.1 2) + ((1 : Int32))) then ((8 : Int32)) else ((s0.1 2) + ((1 : Int32))))) s1
set_option maxHeartbeats 4000000 in
set_option maxRecDepth 100000 in
theorem B_X1_keep_83 {X : bb_X} (C : bb_C X RX1 cX1_keep 3) (hR : bb_r X 1) (hr : X.meth.sig.returnType = none) (h : Nat → Nat) (g : Nat → Nat) {z : (bb_O × bb_O)} (R : bb_R X none (wX1 X.cs h z.1 ++ wX0 X.cs g z.2)) {s0 : bb_O} {s1 : bb_O} (hf : F_X1_keep_83 s0 s1 = some z) : bb_Z X 3 (wX1 X.cs h s0 ++ wX0 X.cs g s1) 83 [(0, .ref (h 0))] [] := by
  refine z_aload_n (pc := 83) (i := 0) C 0 dX1_keep_83 rfl rfl ?_
  refine z_aload_n (pc := 84) (i := 0) C 0 dX1_keep_84 rfl rfl ?_
  refine z_get (pc := 85) (ci := 1) C (.int (s0.1 2)) bi_X1 rfl 0 2 (by decide) rfl bf_X1_16 rfl rfl dX1_keep_85 ?_
  refine z_iconst (pc := 88) C (1 : Int32) dX1_keep_88 (by decide) ?_
  refine z_iadd (pc := 89) C dX1_keep_89 ?_
  refine z_bipush (pc := 90) C (8 : Int32) dX1_keep_90 (by decide) ?_
  refine z_mmin (pc := 92) C (hR.le (by decide)) bm_X1_53 bl_min_s bl_Math bl_min_c (Nat.le_of_ble_eq_true rfl) dX1_keep_92 ?_
  refine z_put (pc := 95) (ci := 1) (ty := .int) (ws' := wX1 X.cs h (bb_sf s0 2 (if ((8 : Int32)) < ((s0.1 2) + ((1 : Int32))) then ((8 : Int32)) else ((s0.1 2) + ((1 : Int32))))) ++ wX0 X.cs g s1) C bi_X1 tyX1_ok nmX1 rfl 0 2 (by decide) rfl bf_X1_16 rfl rfl rfl rfl rfl (Nat.le_of_ble_eq_true rfl) rfl dX1_keep_95 ?_
  refine z_lv [] rfl ?_
  exact B_X1_keep_98 C hR hr h g R  hf
noncomputable def F_X1_keep_62 (s0 : bb_O) (s1 : bb_O) (x2 : Int32) : Option (bb_O × bb_O) := bb_g (vp_in x2 8) (F_X1_keep_83 (bb_sf (bb_sA s0 x2.toNatClampNeg (upd (s0.2.1 x2.toNatClampNeg) 11 (s1.1 8))) 1 ((((bb_sA s0 x2.toNatClampNeg (upd (s0.2.1 x2.toNatClampNeg) 11 (s1.1 8))).1 1) + ((1 : Int32))) % ((8 : Int32)))) s1)
set_option maxHeartbeats 4000000 in
set_option maxRecDepth 100000 in
theorem B_X1_keep_62 {X : bb_X} (C : bb_C X RX1 cX1_keep 3) (hR : bb_r X 1) (hr : X.meth.sig.returnType = none) (h : Nat → Nat) (g : Nat → Nat) {z : (bb_O × bb_O)} (R : bb_R X none (wX1 X.cs h z.1 ++ wX0 X.cs g z.2)) {s0 : bb_O} {s1 : bb_O} {x2 : Int32} (hf : F_X1_keep_62 s0 s1 x2 = some z) : bb_Z X 3 (wX1 X.cs h s0 ++ wX0 X.cs g s1) 62 [(0, .ref (h 0)), (1, .ref (g 0)), (2, .ref (h (10 + x2.toNatClampNeg)))] [] := by
  refine z_aload_n (pc := 62) (i := 2) C 2 dX1_keep_62 rfl rfl ?_
  refine z_bipush (pc := 63) C (11 : Int32) dX1_keep_63 (by decide) ?_
  refine z_aload_n (pc := 65) (i := 1) C 1 dX1_keep_65 rfl rfl ?_
  refine z_get (pc := 66) (ci := 0) C (.int (s1.1 8)) bi_X0 rfl 10 8 (by decide) rfl bf_X1_50 rfl rfl dX1_keep_66 ?_
  obtain ⟨hv1, hf⟩ := bb_g_some hf
  refine z_iast (pc := 69) (ws' := wX1 X.cs h (bb_sA s0 x2.toNatClampNeg (upd (s0.2.1 x2.toNatClampNeg) 11 (s1.1 8))) ++ wX0 X.cs g s1) C (2 + x2.toNatClampNeg) 0 (11) (bb_stepposL _ _ _ _ (bb_inN hv1)) rfl (show ¬ ((11 : Int32) < 0 ∨ 12 ≤ (11 : Int32).toNatClampNeg) by decide) (by decide) (bb_stepsetL _ _ _ _ (bb_inN hv1) _) dX1_keep_69 ?_
  refine z_aload_n (pc := 70) (i := 0) C 0 dX1_keep_70 rfl rfl ?_
  refine z_aload_n (pc := 71) (i := 0) C 0 dX1_keep_71 rfl rfl ?_
  refine z_get (pc := 72) (ci := 1) C (.int ((bb_sA s0 x2.toNatClampNeg (upd (s0.2.1 x2.toNatClampNeg) 11 (s1.1 8))).1 1)) bi_X1 rfl 0 1 (by decide) rfl bf_X1_20 rfl rfl dX1_keep_72 ?_
  refine z_iconst (pc := 75) C (1 : Int32) dX1_keep_75 (by decide) ?_
  refine z_iadd (pc := 76) C dX1_keep_76 ?_
  refine z_bipush (pc := 77) C (8 : Int32) dX1_keep_77 (by decide) ?_
  refine z_irem (pc := 79) C dX1_keep_79 (by decide) ?_
  refine z_put (pc := 80) (ci := 1) (ty := .int) (ws' := wX1 X.cs h (bb_sf (bb_sA s0 x2.toNatClampNeg (upd (s0.2.1 x2.toNatClampNeg) 11 (s1.1 8))) 1 ((((bb_sA s0 x2.toNatClampNeg (upd (s0.2.1 x2.toNatClampNeg) 11 (s1.1 8))).1 1) + ((1 : Int32))) % ((8 : Int32)))) ++ wX0 X.cs g s1) C bi_X1 tyX1_ok nmX1 rfl 0 1 (by decide) rfl bf_X1_20 rfl rfl rfl rfl rfl (Nat.le_of_ble_eq_true rfl) rfl dX1_keep_80 ?_
  refine z_lv [0] rfl ?_
  exact B_X1_keep_83 C hR hr h g R  hf
noncomputable def F_X1_keep_46 (s0 : bb_O) (s1 : bb_O) (x2 : Int32) : Option (bb_O × bb_O) := bb_g (vp_in x2 8) (bb_g (vp_in x2 8) (F_X1_keep_62 (bb_sA (bb_sA s0 x2.toNatClampNeg (upd (s0.2.1 x2.toNatClampNeg) 9 (s1.1 6))) x2.toNatClampNeg (upd ((bb_sA s0 x2.toNatClampNeg (upd (s0.2.1 x2.toNatClampNeg) 9 (s1.1 6))).2.1 x2.toNatClampNeg) 10 (s1.1 7))) s1 x2))
set_option maxHeartbeats 4000000 in
set_option maxRecDepth 100000 in
theorem B_X1_keep_46 {X : bb_X} (C : bb_C X RX1 cX1_keep 3) (hR : bb_r X 1) (hr : X.meth.sig.returnType = none) (h : Nat → Nat) (g : Nat → Nat) {z : (bb_O × bb_O)} (R : bb_R X none (wX1 X.cs h z.1 ++ wX0 X.cs g z.2)) {s0 : bb_O} {s1 : bb_O} {x2 : Int32} (hf : F_X1_keep_46 s0 s1 x2 = some z) : bb_Z X 3 (wX1 X.cs h s0 ++ wX0 X.cs g s1) 46 [(0, .ref (h 0)), (1, .ref (g 0)), (2, .ref (h (10 + x2.toNatClampNeg)))] [] := by
  refine z_aload_n (pc := 46) (i := 2) C 2 dX1_keep_46 rfl rfl ?_
  refine z_bipush (pc := 47) C (9 : Int32) dX1_keep_47 (by decide) ?_
  refine z_aload_n (pc := 49) (i := 1) C 1 dX1_keep_49 rfl rfl ?_
  refine z_get (pc := 50) (ci := 0) C (.int (s1.1 6)) bi_X0 rfl 10 6 (by decide) rfl bf_X1_44 rfl rfl dX1_keep_50 ?_
  obtain ⟨hv1, hf⟩ := bb_g_some hf
  refine z_iast (pc := 53) (ws' := wX1 X.cs h (bb_sA s0 x2.toNatClampNeg (upd (s0.2.1 x2.toNatClampNeg) 9 (s1.1 6))) ++ wX0 X.cs g s1) C (2 + x2.toNatClampNeg) 0 (9) (bb_stepposL _ _ _ _ (bb_inN hv1)) rfl (show ¬ ((9 : Int32) < 0 ∨ 12 ≤ (9 : Int32).toNatClampNeg) by decide) (by decide) (bb_stepsetL _ _ _ _ (bb_inN hv1) _) dX1_keep_53 ?_
  refine z_aload_n (pc := 54) (i := 2) C 2 dX1_keep_54 rfl rfl ?_
  refine z_bipush (pc := 55) C (10 : Int32) dX1_keep_55 (by decide) ?_
  refine z_aload_n (pc := 57) (i := 1) C 1 dX1_keep_57 rfl rfl ?_
  refine z_get (pc := 58) (ci := 0) C (.int (s1.1 7)) bi_X0 rfl 10 7 (by decide) rfl bf_X1_47 rfl rfl dX1_keep_58 ?_
  obtain ⟨hv2, hf⟩ := bb_g_some hf
  refine z_iast (pc := 61) (ws' := wX1 X.cs h (bb_sA (bb_sA s0 x2.toNatClampNeg (upd (s0.2.1 x2.toNatClampNeg) 9 (s1.1 6))) x2.toNatClampNeg (upd ((bb_sA s0 x2.toNatClampNeg (upd (s0.2.1 x2.toNatClampNeg) 9 (s1.1 6))).2.1 x2.toNatClampNeg) 10 (s1.1 7))) ++ wX0 X.cs g s1) C (2 + x2.toNatClampNeg) 0 (10) (bb_stepposL _ _ _ _ (bb_inN hv2)) rfl (show ¬ ((10 : Int32) < 0 ∨ 12 ≤ (10 : Int32).toNatClampNeg) by decide) (by decide) (bb_stepsetL _ _ _ _ (bb_inN hv2) _) dX1_keep_61 ?_
  exact B_X1_keep_62 C hR hr h g R  hf
noncomputable def F_X1_keep_30 (s0 : bb_O) (s1 : bb_O) (x2 : Int32) : Option (bb_O × bb_O) := bb_g (vp_in x2 8) (bb_g (vp_in x2 8) (F_X1_keep_46 (bb_sA (bb_sA s0 x2.toNatClampNeg (upd (s0.2.1 x2.toNatClampNeg) 7 (s1.1 4))) x2.toNatClampNeg (upd ((bb_sA s0 x2.toNatClampNeg (upd (s0.2.1 x2.toNatClampNeg) 7 (s1.1 4))).2.1 x2.toNatClampNeg) 8 (s1.1 5))) s1 x2))
set_option maxHeartbeats 4000000 in
set_option maxRecDepth 100000 in
theorem B_X1_keep_30 {X : bb_X} (C : bb_C X RX1 cX1_keep 3) (hR : bb_r X 1) (hr : X.meth.sig.returnType = none) (h : Nat → Nat) (g : Nat → Nat) {z : (bb_O × bb_O)} (R : bb_R X none (wX1 X.cs h z.1 ++ wX0 X.cs g z.2)) {s0 : bb_O} {s1 : bb_O} {x2 : Int32} (hf : F_X1_keep_30 s0 s1 x2 = some z) : bb_Z X 3 (wX1 X.cs h s0 ++ wX0 X.cs g s1) 30 [(0, .ref (h 0)), (1, .ref (g 0)), (2, .ref (h (10 + x2.toNatClampNeg)))] [] := by
  refine z_aload_n (pc := 30) (i := 2) C 2 dX1_keep_30 rfl rfl ?_
  refine z_bipush (pc := 31) C (7 : Int32) dX1_keep_31 (by decide) ?_
  refine z_aload_n (pc := 33) (i := 1) C 1 dX1_keep_33 rfl rfl ?_
  refine z_get (pc := 34) (ci := 0) C (.int (s1.1 4)) bi_X0 rfl 10 4 (by decide) rfl bf_X1_38 rfl rfl dX1_keep_34 ?_
  obtain ⟨hv1, hf⟩ := bb_g_some hf
  refine z_iast (pc := 37) (ws' := wX1 X.cs h (bb_sA s0 x2.toNatClampNeg (upd (s0.2.1 x2.toNatClampNeg) 7 (s1.1 4))) ++ wX0 X.cs g s1) C (2 + x2.toNatClampNeg) 0 (7) (bb_stepposL _ _ _ _ (bb_inN hv1)) rfl (show ¬ ((7 : Int32) < 0 ∨ 12 ≤ (7 : Int32).toNatClampNeg) by decide) (by decide) (bb_stepsetL _ _ _ _ (bb_inN hv1) _) dX1_keep_37 ?_
  refine z_aload_n (pc := 38) (i := 2) C 2 dX1_keep_38 rfl rfl ?_
  refine z_bipush (pc := 39) C (8 : Int32) dX1_keep_39 (by decide) ?_
  refine z_aload_n (pc := 41) (i := 1) C 1 dX1_keep_41 rfl rfl ?_
  refine z_get (pc := 42) (ci := 0) C (.int (s1.1 5)) bi_X0 rfl 10 5 (by decide) rfl bf_X1_41 rfl rfl dX1_keep_42 ?_
  obtain ⟨hv2, hf⟩ := bb_g_some hf
  refine z_iast (pc := 45) (ws' := wX1 X.cs h (bb_sA (bb_sA s0 x2.toNatClampNeg (upd (s0.2.1 x2.toNatClampNeg) 7 (s1.1 4))) x2.toNatClampNeg (upd ((bb_sA s0 x2.toNatClampNeg (upd (s0.2.1 x2.toNatClampNeg) 7 (s1.1 4))).2.1 x2.toNatClampNeg) 8 (s1.1 5))) ++ wX0 X.cs g s1) C (2 + x2.toNatClampNeg) 0 (8) (bb_stepposL _ _ _ _ (bb_inN hv2)) rfl (show ¬ ((8 : Int32) < 0 ∨ 12 ≤ (8 : Int32).toNatClampNeg) by decide) (by decide) (bb_stepsetL _ _ _ _ (bb_inN hv2) _) dX1_keep_45 ?_
  exact B_X1_keep_46 C hR hr h g R  hf
noncomputable def F_X1_keep_0 (s0 : bb_O) (s1 : bb_O) : Option (bb_O × bb_O) := bb_g (vp_in (s0.1 1) 8) (bb_g (vp_in (s0.1 1) 8) (bb_g (vp_in (s0.1 1) 8) (F_X1_keep_30 (bb_sA (bb_sA s0 (s0.1 1).toNatClampNeg (va_cpy (s1.2.1 10) (s0.2.1 (s0.1 1).toNatClampNeg) 0 0 6)) (s0.1 1).toNatClampNeg (upd ((bb_sA s0 (s0.1 1).toNatClampNeg (va_cpy (s1.2.1 10) (s0.2.1 (s0.1 1).toNatClampNeg) 0 0 6)).2.1 (s0.1 1).toNatClampNeg) 6 (s1.1 3))) s1 (s0.1 1))))
set_option maxHeartbeats 4000000 in
set_option maxRecDepth 100000 in
theorem B_X1_keep_0 {X : bb_X} (C : bb_C X RX1 cX1_keep 3) (hR : bb_r X 1) (hr : X.meth.sig.returnType = none) (h : Nat → Nat) (g : Nat → Nat) {z : (bb_O × bb_O)} (R : bb_R X none (wX1 X.cs h z.1 ++ wX0 X.cs g z.2)) {s0 : bb_O} {s1 : bb_O} (hf : F_X1_keep_0 s0 s1 = some z) : bb_Z X 3 (wX1 X.cs h s0 ++ wX0 X.cs g s1) 0 [(0, .ref (h 0)), (1, .ref (g 0))] [] := by
  refine z_aload_n (pc := 0) (i := 0) C 0 dX1_keep_0 rfl rfl ?_
  refine z_get (pc := 1) (ci := 1) C (.ref (h 1)) bi_X1 rfl 0 0 (by decide) rfl bf_X1_13 rfl rfl dX1_keep_1 ?_
  refine z_aload_n (pc := 4) (i := 0) C 0 dX1_keep_4 rfl rfl ?_
  refine z_get (pc := 5) (ci := 1) C (.int (s0.1 1)) bi_X1 rfl 0 1 (by decide) rfl bf_X1_20 rfl rfl dX1_keep_5 ?_
  obtain ⟨hv1, hf⟩ := bb_g_some hf
  refine z_aald (pc := 8) (b := h (10 + (s0.1 1).toNatClampNeg)) C 1 3 rfl rfl rfl hv1 (if_pos (bb_inN hv1)) dX1_keep_8 ?_
  refine z_astore_n (pc := 9) (i := 2) (lv' := [(2, .ref (h (10 + (s0.1 1).toNatClampNeg))), (0, .ref (h 0)), (1, .ref (g 0))]) C dX1_keep_9 rfl (by decide) rfl ?_
  refine z_aload_n (pc := 10) (i := 1) C 2 dX1_keep_10 rfl rfl ?_
  refine z_get (pc := 11) (ci := 0) C (.ref (g 11)) bi_X0 rfl 10 10 (by decide) rfl bf_X1_23 rfl rfl dX1_keep_11 ?_
  refine z_iconst (pc := 14) C (0 : Int32) dX1_keep_14 (by decide) ?_
  refine z_aload_n (pc := 15) (i := 2) C 0 dX1_keep_15 rfl rfl ?_
  refine z_iconst (pc := 16) C (0 : Int32) dX1_keep_16 (by decide) ?_
  refine z_bipush (pc := 17) C (6 : Int32) dX1_keep_17 (by decide) ?_
  obtain ⟨hv2, hf⟩ := bb_g_some hf
  refine z_copyi (pc := 19) (ws' := wX1 X.cs h (bb_sA s0 (s0.1 1).toNatClampNeg (va_cpy (s1.2.1 10) (s0.2.1 (s0.1 1).toNatClampNeg) 0 0 6)) ++ wX0 X.cs g s1) C (hR.le (by decide)) bm_X1_29 bl_ac_n bl_ac_s bl_System 12 (2 + (s0.1 1).toNatClampNeg) 0 0 (0) (0) (6) rfl (bb_stepposL _ _ _ _ (bb_inN hv2)) rfl rfl rfl (by decide) (by decide) (by decide) (by decide) (by decide) (by decide) (by decide) (by decide) (Nat.le_of_ble_eq_true rfl) (bb_stepsetL _ _ _ _ (bb_inN hv2) _) dX1_keep_19 ?_
  refine z_aload_n (pc := 22) (i := 2) C 0 dX1_keep_22 rfl rfl ?_
  refine z_bipush (pc := 23) C (6 : Int32) dX1_keep_23 (by decide) ?_
  refine z_aload_n (pc := 25) (i := 1) C 2 dX1_keep_25 rfl rfl ?_
  refine z_get (pc := 26) (ci := 0) C (.int (s1.1 3)) bi_X0 rfl 10 3 (by decide) rfl bf_X1_35 rfl rfl dX1_keep_26 ?_
  obtain ⟨hv3, hf⟩ := bb_g_some hf
  refine z_iast (pc := 29) (ws' := wX1 X.cs h (bb_sA (bb_sA s0 (s0.1 1).toNatClampNeg (va_cpy (s1.2.1 10) (s0.2.1 (s0.1 1).toNatClampNeg) 0 0 6)) (s0.1 1).toNatClampNeg (upd ((bb_sA s0 (s0.1 1).toNatClampNeg (va_cpy (s1.2.1 10) (s0.2.1 (s0.1 1).toNatClampNeg) 0 0 6)).2.1 (s0.1 1).toNatClampNeg) 6 (s1.1 3))) ++ wX0 X.cs g s1) C (2 + (s0.1 1).toNatClampNeg) 0 (6) (bb_stepposL _ _ _ _ (bb_inN hv3)) rfl (show ¬ ((6 : Int32) < 0 ∨ 12 ≤ (6 : Int32).toNatClampNeg) by decide) (by decide) (bb_stepsetL _ _ _ _ (bb_inN hv3) _) dX1_keep_29 ?_
  refine z_lv [1, 2, 0] rfl ?_
  exact B_X1_keep_30 C hR hr h g R  hf
theorem c_X1_keep {l : Launch} {D : va_G} {cs : Nat → ClassId} (h : Nat → Nat) (g : Nat → Nat) {s0 : bb_O} {s1 : bb_O} {z : (bb_O × bb_O)} (hf : F_X1_keep_0 s0 s1 = some z) : bb_M l yX1_keep cX1_keep 3 none 1 D cs [.ref (h 0), .ref (g 0)] none (wX1 cs h s0 ++ wX0 cs g s1) (wX1 cs h z.1 ++ wX0 cs g z.2) := bb_mg (by decide) rfl (Nat.le_of_ble_eq_true rfl) rfl (fun X hl hD hcs C hR hr R => by
  subst hl
  subst hD
  subst hcs
  exact B_X1_keep_0 C hR hr h g R hf)
/-! X1_bringBack: writes, level 1 -/
noncomputable def F_X1_bringBack_88 (s0 : bb_O) (s1 : bb_O) (x2 : Int32) : Option (bb_O × bb_O) := bb_g (vp_in x2 8) (bb_g (vp_in x2 8) (some (s0, bb_sf (bb_sf s1 7 (s0.2.1 x2.toNatClampNeg 10)) 8 (s0.2.1 x2.toNatClampNeg 11))))
set_option maxHeartbeats 4000000 in
set_option maxRecDepth 100000 in
theorem B_X1_bringBack_88 {X : bb_X} (C : bb_C X RX1 cX1_bringBack 3) (hR : bb_r X 1) (hr : X.meth.sig.returnType = none) (h : Nat → Nat) (g : Nat → Nat) {z : (bb_O × bb_O)} (R : bb_R X none (wX1 X.cs h z.1 ++ wX0 X.cs g z.2)) {s0 : bb_O} {s1 : bb_O} {x2 : Int32} (hf : F_X1_bringBack_88 s0 s1 x2 = some z) : bb_Z X 3 (wX1 X.cs h s0 ++ wX0 X.cs g s1) 88 [(1, .ref (g 0)), (2, .ref (h (10 + x2.toNatClampNeg)))] [] := by
  refine z_aload_n (pc := 88) (i := 1) C 0 dX1_bringBack_88 rfl rfl ?_
  refine z_aload_n (pc := 89) (i := 2) C 1 dX1_bringBack_89 rfl rfl ?_
  refine z_bipush (pc := 90) C (10 : Int32) dX1_bringBack_90 (by decide) ?_
  obtain ⟨hv1, hf⟩ := bb_g_some hf
  refine z_iald (pc := 92) C (2 + x2.toNatClampNeg) 0 (10) (bb_stepposL _ _ _ _ (bb_inN hv1)) rfl (show ¬ ((10 : Int32) < 0 ∨ 12 ≤ (10 : Int32).toNatClampNeg) by decide) (by decide) dX1_bringBack_92 ?_
  refine z_put (pc := 93) (ci := 0) (ty := .int) (ws' := wX1 X.cs h s0 ++ wX0 X.cs g (bb_sf s1 7 (s0.2.1 x2.toNatClampNeg 10))) C bi_X0 tyX0_ok nmX0 rfl 10 7 (by decide) rfl bf_X1_47 rfl rfl rfl rfl rfl (Nat.le_of_ble_eq_true rfl) rfl dX1_bringBack_93 ?_
  refine z_aload_n (pc := 96) (i := 1) C 0 dX1_bringBack_96 rfl rfl ?_
  refine z_aload_n (pc := 97) (i := 2) C 1 dX1_bringBack_97 rfl rfl ?_
  refine z_bipush (pc := 98) C (11 : Int32) dX1_bringBack_98 (by decide) ?_
  obtain ⟨hv2, hf⟩ := bb_g_some hf
  refine z_iald (pc := 100) C (2 + x2.toNatClampNeg) 0 (11) (bb_stepposL _ _ _ _ (bb_inN hv2)) rfl (show ¬ ((11 : Int32) < 0 ∨ 12 ≤ (11 : Int32).toNatClampNeg) by decide) (by decide) dX1_bringBack_100 ?_
  refine z_put (pc := 101) (ci := 0) (ty := .int) (ws' := wX1 X.cs h s0 ++ wX0 X.cs g (bb_sf (bb_sf s1 7 (s0.2.1 x2.toNatClampNeg 10)) 8 (s0.2.1 x2.toNatClampNeg 11))) C bi_X0 tyX0_ok nmX0 rfl 10 8 (by decide) rfl bf_X1_50 rfl rfl rfl rfl rfl (Nat.le_of_ble_eq_true rfl) rfl dX1_bringBack_101 ?_
  obtain rfl := Option.some.inj hf
  exact z_vret (pc := 104) C hr R dX1_bringBack_104
noncomputable def F_X1_bringBack_64 (s0 : bb_O) (s1 : bb_O) (x2 : Int32) : Option (bb_O × bb_O) := bb_g (vp_in x2 8) (bb_g (vp_in x2 8) (bb_g (vp_in x2 8) (F_X1_bringBack_88 s0 (bb_sf (bb_sf (bb_sf s1 4 (s0.2.1 x2.toNatClampNeg 7)) 5 (s0.2.1 x2.toNatClampNeg 8)) 6 (s0.2.1 x2.toNatClampNeg 9)) x2)))
set_option maxHeartbeats 4000000 in
set_option maxRecDepth 100000 in
theorem B_X1_bringBack_64 {X : bb_X} (C : bb_C X RX1 cX1_bringBack 3) (hR : bb_r X 1) (hr : X.meth.sig.returnType = none) (h : Nat → Nat) (g : Nat → Nat) {z : (bb_O × bb_O)} (R : bb_R X none (wX1 X.cs h z.1 ++ wX0 X.cs g z.2)) {s0 : bb_O} {s1 : bb_O} {x2 : Int32} (hf : F_X1_bringBack_64 s0 s1 x2 = some z) : bb_Z X 3 (wX1 X.cs h s0 ++ wX0 X.cs g s1) 64 [(1, .ref (g 0)), (2, .ref (h (10 + x2.toNatClampNeg)))] [] := by
  refine z_aload_n (pc := 64) (i := 1) C 0 dX1_bringBack_64 rfl rfl ?_
  refine z_aload_n (pc := 65) (i := 2) C 1 dX1_bringBack_65 rfl rfl ?_
  refine z_bipush (pc := 66) C (7 : Int32) dX1_bringBack_66 (by decide) ?_
  obtain ⟨hv1, hf⟩ := bb_g_some hf
  refine z_iald (pc := 68) C (2 + x2.toNatClampNeg) 0 (7) (bb_stepposL _ _ _ _ (bb_inN hv1)) rfl (show ¬ ((7 : Int32) < 0 ∨ 12 ≤ (7 : Int32).toNatClampNeg) by decide) (by decide) dX1_bringBack_68 ?_
  refine z_put (pc := 69) (ci := 0) (ty := .int) (ws' := wX1 X.cs h s0 ++ wX0 X.cs g (bb_sf s1 4 (s0.2.1 x2.toNatClampNeg 7))) C bi_X0 tyX0_ok nmX0 rfl 10 4 (by decide) rfl bf_X1_38 rfl rfl rfl rfl rfl (Nat.le_of_ble_eq_true rfl) rfl dX1_bringBack_69 ?_
  refine z_aload_n (pc := 72) (i := 1) C 0 dX1_bringBack_72 rfl rfl ?_
  refine z_aload_n (pc := 73) (i := 2) C 1 dX1_bringBack_73 rfl rfl ?_
  refine z_bipush (pc := 74) C (8 : Int32) dX1_bringBack_74 (by decide) ?_
  obtain ⟨hv2, hf⟩ := bb_g_some hf
  refine z_iald (pc := 76) C (2 + x2.toNatClampNeg) 0 (8) (bb_stepposL _ _ _ _ (bb_inN hv2)) rfl (show ¬ ((8 : Int32) < 0 ∨ 12 ≤ (8 : Int32).toNatClampNeg) by decide) (by decide) dX1_bringBack_76 ?_
  refine z_put (pc := 77) (ci := 0) (ty := .int) (ws' := wX1 X.cs h s0 ++ wX0 X.cs g (bb_sf (bb_sf s1 4 (s0.2.1 x2.toNatClampNeg 7)) 5 (s0.2.1 x2.toNatClampNeg 8))) C bi_X0 tyX0_ok nmX0 rfl 10 5 (by decide) rfl bf_X1_41 rfl rfl rfl rfl rfl (Nat.le_of_ble_eq_true rfl) rfl dX1_bringBack_77 ?_
  refine z_aload_n (pc := 80) (i := 1) C 0 dX1_bringBack_80 rfl rfl ?_
  refine z_aload_n (pc := 81) (i := 2) C 1 dX1_bringBack_81 rfl rfl ?_
  refine z_bipush (pc := 82) C (9 : Int32) dX1_bringBack_82 (by decide) ?_
  obtain ⟨hv3, hf⟩ := bb_g_some hf
  refine z_iald (pc := 84) C (2 + x2.toNatClampNeg) 0 (9) (bb_stepposL _ _ _ _ (bb_inN hv3)) rfl (show ¬ ((9 : Int32) < 0 ∨ 12 ≤ (9 : Int32).toNatClampNeg) by decide) (by decide) dX1_bringBack_84 ?_
  refine z_put (pc := 85) (ci := 0) (ty := .int) (ws' := wX1 X.cs h s0 ++ wX0 X.cs g (bb_sf (bb_sf (bb_sf s1 4 (s0.2.1 x2.toNatClampNeg 7)) 5 (s0.2.1 x2.toNatClampNeg 8)) 6 (s0.2.1 x2.toNatClampNeg 9))) C bi_X0 tyX0_ok nmX0 rfl 10 6 (by decide) rfl bf_X1_44 rfl rfl rfl rfl rfl (Nat.le_of_ble_eq_true rfl) rfl dX1_bringBack_85 ?_
  exact B_X1_bringBack_88 C hR hr h g R  hf
noncomputable def F_X1_bringBack_34 (s0 : bb_O) (s1 : bb_O) : Option (bb_O × bb_O) := bb_g (vp_in (s0.1 1) 8) (bb_g (vp_in (s0.1 1) 8) (bb_g (vp_in (s0.1 1) 8) (F_X1_bringBack_64 s0 (bb_sf (bb_sA s1 10 (va_cpy (s0.2.1 (s0.1 1).toNatClampNeg) (s1.2.1 10) 0 0 6)) 3 (s0.2.1 (s0.1 1).toNatClampNeg 6)) (s0.1 1))))
set_option maxHeartbeats 4000000 in
set_option maxRecDepth 100000 in
theorem B_X1_bringBack_34 {X : bb_X} (C : bb_C X RX1 cX1_bringBack 3) (hR : bb_r X 1) (hr : X.meth.sig.returnType = none) (h : Nat → Nat) (g : Nat → Nat) {z : (bb_O × bb_O)} (R : bb_R X none (wX1 X.cs h z.1 ++ wX0 X.cs g z.2)) {s0 : bb_O} {s1 : bb_O} (hf : F_X1_bringBack_34 s0 s1 = some z) : bb_Z X 3 (wX1 X.cs h s0 ++ wX0 X.cs g s1) 34 [(0, .ref (h 0)), (1, .ref (g 0))] [] := by
  refine z_aload_n (pc := 34) (i := 0) C 0 dX1_bringBack_34 rfl rfl ?_
  refine z_get (pc := 35) (ci := 1) C (.ref (h 1)) bi_X1 rfl 0 0 (by decide) rfl bf_X1_13 rfl rfl dX1_bringBack_35 ?_
  refine z_aload_n (pc := 38) (i := 0) C 0 dX1_bringBack_38 rfl rfl ?_
  refine z_get (pc := 39) (ci := 1) C (.int (s0.1 1)) bi_X1 rfl 0 1 (by decide) rfl bf_X1_20 rfl rfl dX1_bringBack_39 ?_
  obtain ⟨hv1, hf⟩ := bb_g_some hf
  refine z_aald (pc := 42) (b := h (10 + (s0.1 1).toNatClampNeg)) C 1 3 rfl rfl rfl hv1 (if_pos (bb_inN hv1)) dX1_bringBack_42 ?_
  refine z_astore_n (pc := 43) (i := 2) (lv' := [(2, .ref (h (10 + (s0.1 1).toNatClampNeg))), (0, .ref (h 0)), (1, .ref (g 0))]) C dX1_bringBack_43 rfl (by decide) rfl ?_
  refine z_aload_n (pc := 44) (i := 2) C 0 dX1_bringBack_44 rfl rfl ?_
  refine z_iconst (pc := 45) C (0 : Int32) dX1_bringBack_45 (by decide) ?_
  refine z_aload_n (pc := 46) (i := 1) C 2 dX1_bringBack_46 rfl rfl ?_
  refine z_get (pc := 47) (ci := 0) C (.ref (g 11)) bi_X0 rfl 10 10 (by decide) rfl bf_X1_23 rfl rfl dX1_bringBack_47 ?_
  refine z_iconst (pc := 50) C (0 : Int32) dX1_bringBack_50 (by decide) ?_
  refine z_bipush (pc := 51) C (6 : Int32) dX1_bringBack_51 (by decide) ?_
  obtain ⟨hv2, hf⟩ := bb_g_some hf
  refine z_copyi (pc := 53) (ws' := wX1 X.cs h s0 ++ wX0 X.cs g (bb_sA s1 10 (va_cpy (s0.2.1 (s0.1 1).toNatClampNeg) (s1.2.1 10) 0 0 6))) C (hR.le (by decide)) bm_X1_29 bl_ac_n bl_ac_s bl_System (2 + (s0.1 1).toNatClampNeg) 12 0 0 (0) (0) (6) (bb_stepposL _ _ _ _ (bb_inN hv2)) rfl rfl rfl rfl (by decide) (by decide) (by decide) (by decide) (by decide) (by decide) (by decide) (by decide) (Nat.le_of_ble_eq_true rfl) rfl dX1_bringBack_53 ?_
  refine z_aload_n (pc := 56) (i := 1) C 2 dX1_bringBack_56 rfl rfl ?_
  refine z_aload_n (pc := 57) (i := 2) C 0 dX1_bringBack_57 rfl rfl ?_
  refine z_bipush (pc := 58) C (6 : Int32) dX1_bringBack_58 (by decide) ?_
  obtain ⟨hv3, hf⟩ := bb_g_some hf
  refine z_iald (pc := 60) C (2 + (s0.1 1).toNatClampNeg) 0 (6) (bb_stepposL _ _ _ _ (bb_inN hv3)) rfl (show ¬ ((6 : Int32) < 0 ∨ 12 ≤ (6 : Int32).toNatClampNeg) by decide) (by decide) dX1_bringBack_60 ?_
  refine z_put (pc := 61) (ci := 0) (ty := .int) (ws' := wX1 X.cs h s0 ++ wX0 X.cs g (bb_sf (bb_sA s1 10 (va_cpy (s0.2.1 (s0.1 1).toNatClampNeg) (s1.2.1 10) 0 0 6)) 3 (s0.2.1 (s0.1 1).toNatClampNeg 6))) C bi_X0 tyX0_ok nmX0 rfl 10 3 (by decide) rfl bf_X1_35 rfl rfl rfl rfl rfl (Nat.le_of_ble_eq_true rfl) rfl dX1_bringBack_61 ?_
  refine z_lv [2, 0] rfl ?_
  exact B_X1_bringBack_64 C hR hr h g R  hf
noncomputable def F_X1_bringBack_0 (s0 : bb_O) (s1 : bb_O) : Option (bb_O × bb_O) := if 0 < (s0.1 2) then (F_X1_bringBack_34 (bb_sf (bb_sf s0 1 ((((s0.1 1) + ((8 : Int32))) - ((1 : Int32))) % ((8 : Int32)))) 2 (((bb_sf s0 1 ((((s0.1 1) + ((8 : Int32))) - ((1 : Int32))) % ((8 : Int32)))).1 2) - ((1 : Int32)))) s1) else (some (s0, s1))
set_option maxHeartbeats 4000000 in
set_option maxRecDepth 100000 in
theorem B_X1_bringBack_0 {X : bb_X} (C : bb_C X RX1 cX1_bringBack 3) (hR : bb_r X 1) (hr : X.meth.sig.returnType = none) (h : Nat → Nat) (g : Nat → Nat) {z : (bb_O × bb_O)} (R : bb_R X none (wX1 X.cs h z.1 ++ wX0 X.cs g z.2)) {s0 : bb_O} {s1 : bb_O} (hf : F_X1_bringBack_0 s0 s1 = some z) : bb_Z X 3 (wX1 X.cs h s0 ++ wX0 X.cs g s1) 0 [(0, .ref (h 0)), (1, .ref (g 0))] [] := by
  refine z_aload_n (pc := 0) (i := 0) C 0 dX1_bringBack_0 rfl rfl ?_
  refine z_get (pc := 1) (ci := 1) C (.int (s0.1 2)) bi_X1 rfl 0 2 (by decide) rfl bf_X1_16 rfl rfl dX1_bringBack_1 ?_
  refine z_if_gt (pc := 4) C 8 dX1_bringBack_4 (by decide) (fun hc1 => ?_) (fun hc1 => ?_)
  · have hf := bb_t hf hc1
    refine z_aload_n (pc := 8) (i := 0) C 0 dX1_bringBack_8 rfl rfl ?_
    refine z_aload_n (pc := 9) (i := 0) C 0 dX1_bringBack_9 rfl rfl ?_
    refine z_get (pc := 10) (ci := 1) C (.int (s0.1 1)) bi_X1 rfl 0 1 (by decide) rfl bf_X1_20 rfl rfl dX1_bringBack_10 ?_
    refine z_bipush (pc := 13) C (8 : Int32) dX1_bringBack_13 (by decide) ?_
    refine z_iadd (pc := 15) C dX1_bringBack_15 ?_
    refine z_iconst (pc := 16) C (1 : Int32) dX1_bringBack_16 (by decide) ?_
    refine z_isub (pc := 17) C dX1_bringBack_17 ?_
    refine z_bipush (pc := 18) C (8 : Int32) dX1_bringBack_18 (by decide) ?_
    refine z_irem (pc := 20) C dX1_bringBack_20 (by decide) ?_
    refine z_put (pc := 21) (ci := 1) (ty := .int) (ws' := wX1 X.cs h (bb_sf s0 1 ((((s0.1 1) + ((8 : Int32))) - ((1 : Int32))) % ((8 : Int32)))) ++ wX0 X.cs g s1) C bi_X1 tyX1_ok nmX1 rfl 0 1 (by decide) rfl bf_X1_20 rfl rfl rfl rfl rfl (Nat.le_of_ble_eq_true rfl) rfl dX1_bringBack_21 ?_
    refine z_aload_n (pc := 24) (i := 0) C 0 dX1_bringBack_24 rfl rfl ?_
    refine z_dup (pc := 25) C dX1_bringBack_25 rfl ?_
    refine z_get (pc := 26) (ci := 1) C (.int ((bb_sf s0 1 ((((s0.1 1) + ((8 : Int32))) - ((1 : Int32))) % ((8 : Int32)))).1 2)) bi_X1 rfl 0 2 (by decide) rfl bf_X1_16 rfl rfl dX1_bringBack_26 ?_
    refine z_iconst (pc := 29) C (1 : Int32) dX1_bringBack_29 (by decide) ?_
    refine z_isub (pc := 30) C dX1_bringBack_30 ?_
    refine z_put (pc := 31) (ci := 1) (ty := .int) (ws' := wX1 X.cs h (bb_sf (bb_sf s0 1 ((((s0.1 1) + ((8 : Int32))) - ((1 : Int32))) % ((8 : Int32)))) 2 (((bb_sf s0 1 ((((s0.1 1) + ((8 : Int32))) - ((1 : Int32))) % ((8 : Int32)))).1 2) - ((1 : Int32)))) ++ wX0 X.cs g s1) C bi_X1 tyX1_ok nmX1 rfl 0 2 (by decide) rfl bf_X1_16 rfl rfl rfl rfl rfl (Nat.le_of_ble_eq_true rfl) rfl dX1_bringBack_31 ?_
    exact B_X1_bringBack_34 C hR hr h g R  hf
  · have hf := bb_e hf hc1
    obtain rfl := Option.some.inj hf
    exact z_vret (pc := 7) C hr R dX1_bringBack_7
theorem c_X1_bringBack {l : Launch} {D : va_G} {cs : Nat → ClassId} (h : Nat → Nat) (g : Nat → Nat) {s0 : bb_O} {s1 : bb_O} {z : (bb_O × bb_O)} (hf : F_X1_bringBack_0 s0 s1 = some z) : bb_M l yX1_bringBack cX1_bringBack 3 none 1 D cs [.ref (h 0), .ref (g 0)] none (wX1 cs h s0 ++ wX0 cs g s1) (wX1 cs h z.1 ++ wX0 cs g z.2) := bb_mg (by decide) rfl (Nat.le_of_ble_eq_true rfl) rfl (fun X hl hD hcs C hR hr R => by
  subst hl
  subst hD
  subst hcs
  exact B_X1_bringBack_0 C hR hr h g R hf)
/-! X1_takePast: writes, level 1 -/
noncomputable def F_X1_takePast_43 (k18 : bb_O → bb_O → Int32 → Option (bb_O × bb_O)) (s0 : bb_O) (s1 : bb_O) (x2 : Int32) : Option (bb_O × bb_O) := k18 s0 s1 (x2 + 1)
set_option maxHeartbeats 4000000 in
set_option maxRecDepth 100000 in
theorem B_X1_takePast_43 {X : bb_X} (C : bb_C X RX1 cX1_takePast 3) (hR : bb_r X 1) (hr : X.meth.sig.returnType = none) (h : Nat → Nat) (g : Nat → Nat) {z : (bb_O × bb_O)} (R : bb_R X none (wX1 X.cs h z.1 ++ wX1 X.cs g z.2)) {k18 : bb_O → bb_O → Int32 → Option (bb_O × bb_O)} (hk18 : ∀ (s0 : bb_O) (s1 : bb_O) (x2 : Int32), k18 s0 s1 x2 = some z → bb_Z X 3 (wX1 X.cs h s0 ++ wX1 X.cs g s1) 18 [(0, .ref (h 0)), (1, .ref (g 0)), (2, .int x2)] []) {s0 : bb_O} {s1 : bb_O} {x2 : Int32} (hf : F_X1_takePast_43 k18 s0 s1 x2 = some z) : bb_Z X 3 (wX1 X.cs h s0 ++ wX1 X.cs g s1) 43 [(0, .ref (h 0)), (1, .ref (g 0)), (2, .int x2)] [] := by
  refine z_iinc (pc := 43) (lv' := [(2, .int (x2 + 1)), (0, .ref (h 0)), (1, .ref (g 0))]) C (x2 + 1) 2 dX1_takePast_43 rfl rfl (by decide) rfl ?_
  refine z_goto (pc := 46) C 18 dX1_takePast_46 (by decide) ?_
  refine z_lv [1, 2, 0] rfl ?_
  exact hk18 _ _ _ hf
noncomputable def G_X1_takePast_18 (k18 : bb_O → bb_O → Int32 → Option (bb_O × bb_O)) (s0 : bb_O) (s1 : bb_O) (x2 : Int32) : Option (bb_O × bb_O) := if ((8 : Int32)) ≤ x2 then (some (s0, s1)) else (bb_g (vp_in x2 8) (bb_g (vp_in x2 8) (bb_g (vp_in x2 8) (bb_g (vp_in x2 8) (F_X1_takePast_43 k18 (bb_sA s0 x2.toNatClampNeg (va_cpy (s1.2.1 x2.toNatClampNeg) (s0.2.1 x2.toNatClampNeg) 0 0 12)) s1 x2)))))
noncomputable def F_X1_takePast_18  : Nat → bb_O → bb_O → Int32 → Option (bb_O × bb_O)
  | 0, _, _, _ => none
  | n + 1, s0, s1, x2 => G_X1_takePast_18  (F_X1_takePast_18  n) s0 s1 x2
set_option maxHeartbeats 4000000 in
set_option maxRecDepth 100000 in
theorem A_X1_takePast_18 {X : bb_X} (C : bb_C X RX1 cX1_takePast 3) (hR : bb_r X 1) (hr : X.meth.sig.returnType = none) (h : Nat → Nat) (g : Nat → Nat) {z : (bb_O × bb_O)} (R : bb_R X none (wX1 X.cs h z.1 ++ wX1 X.cs g z.2)) {k18 : bb_O → bb_O → Int32 → Option (bb_O × bb_O)} (hk18 : ∀ (s0 : bb_O) (s1 : bb_O) (x2 : Int32), k18 s0 s1 x2 = some z → bb_Z X 3 (wX1 X.cs h s0 ++ wX1 X.cs g s1) 18 [(0, .ref (h 0)), (1, .ref (g 0)), (2, .int x2)] []) {s0 : bb_O} {s1 : bb_O} {x2 : Int32} (hf : G_X1_takePast_18 k18 s0 s1 x2 = some z) : bb_Z X 3 (wX1 X.cs h s0 ++ wX1 X.cs g s1) 18 [(0, .ref (h 0)), (1, .ref (g 0)), (2, .int x2)] [] := by
  refine z_iload_n (pc := 18) (i := 2) C 2 dX1_takePast_18 rfl rfl ?_
  refine z_bipush (pc := 19) C (8 : Int32) dX1_takePast_19 (by decide) ?_
  refine z_icmp_ge (pc := 21) C 49 dX1_takePast_21 (by decide) (fun hc1 => ?_) (fun hc1 => ?_)
  · have hf := bb_t hf hc1
    obtain rfl := Option.some.inj hf
    exact z_vret (pc := 49) C hr R dX1_takePast_49
  · have hf := bb_e hf hc1
    refine z_aload_n (pc := 24) (i := 1) C 1 dX1_takePast_24 rfl rfl ?_
    refine z_get (pc := 25) (ci := 1) C (.ref (g 1)) bi_X1 rfl 10 0 (by decide) rfl bf_X1_13 rfl rfl dX1_takePast_25 ?_
    refine z_iload_n (pc := 28) (i := 2) C 2 dX1_takePast_28 rfl rfl ?_
    obtain ⟨hv2, hf⟩ := bb_g_some hf
    refine z_aald (pc := 29) (b := g (10 + x2.toNatClampNeg)) C 11 3 rfl rfl rfl hv2 (if_pos (bb_inN hv2)) dX1_takePast_29 ?_
    refine z_iconst (pc := 30) C (0 : Int32) dX1_takePast_30 (by decide) ?_
    refine z_aload_n (pc := 31) (i := 0) C 0 dX1_takePast_31 rfl rfl ?_
    refine z_get (pc := 32) (ci := 1) C (.ref (h 1)) bi_X1 rfl 0 0 (by decide) rfl bf_X1_13 rfl rfl dX1_takePast_32 ?_
    refine z_iload_n (pc := 35) (i := 2) C 2 dX1_takePast_35 rfl rfl ?_
    obtain ⟨hv3, hf⟩ := bb_g_some hf
    refine z_aald (pc := 36) (b := h (10 + x2.toNatClampNeg)) C 1 3 rfl rfl rfl hv3 (if_pos (bb_inN hv3)) dX1_takePast_36 ?_
    refine z_iconst (pc := 37) C (0 : Int32) dX1_takePast_37 (by decide) ?_
    refine z_bipush (pc := 38) C (12 : Int32) dX1_takePast_38 (by decide) ?_
    obtain ⟨hv4, hf⟩ := bb_g_some hf
    obtain ⟨hv5, hf⟩ := bb_g_some hf
    refine z_copyi (pc := 40) (ws' := wX1 X.cs h (bb_sA s0 x2.toNatClampNeg (va_cpy (s1.2.1 x2.toNatClampNeg) (s0.2.1 x2.toNatClampNeg) 0 0 12)) ++ wX1 X.cs g s1) C (hR.le (by decide)) bm_X1_29 bl_ac_n bl_ac_s bl_System (12 + x2.toNatClampNeg) (2 + x2.toNatClampNeg) 0 0 (0) (0) (12) (bb_stepposR _ _ _ _ _ (bb_inN hv4)) (bb_stepposL _ _ _ _ (bb_inN hv5)) rfl rfl rfl (by decide) (by decide) (by decide) (by decide) (by decide) (by decide) (by decide) (by decide) (Nat.le_of_ble_eq_true rfl) (bb_stepsetL _ _ _ _ (bb_inN hv5) _) dX1_takePast_40 ?_
    exact B_X1_takePast_43 C hR hr h g R hk18 hf
theorem B_X1_takePast_18 {X : bb_X} (C : bb_C X RX1 cX1_takePast 3) (hR : bb_r X 1) (hr : X.meth.sig.returnType = none) (h : Nat → Nat) (g : Nat → Nat) {z : (bb_O × bb_O)} (R : bb_R X none (wX1 X.cs h z.1 ++ wX1 X.cs g z.2)) : ∀ (n : Nat) (s0 : bb_O) (s1 : bb_O) (x2 : Int32), F_X1_takePast_18  n s0 s1 x2 = some z → bb_Z X 3 (wX1 X.cs h s0 ++ wX1 X.cs g s1) 18 [(0, .ref (h 0)), (1, .ref (g 0)), (2, .int x2)] [] := by
  intro n
  induction n with
  | zero =>
    intro s0 s1 x2 hf
    cases hf
  | succ n ih =>
    intro s0 s1 x2 hf
    exact A_X1_takePast_18 C hR hr h g R  ih hf
noncomputable def F_X1_takePast_0 (s0 : bb_O) (s1 : bb_O) : Option (bb_O × bb_O) := F_X1_takePast_18 bb_N (bb_sf (bb_sf s0 1 (s1.1 1)) 2 (s1.1 2)) s1 ((0 : Int32))
set_option maxHeartbeats 4000000 in
set_option maxRecDepth 100000 in
theorem B_X1_takePast_0 {X : bb_X} (C : bb_C X RX1 cX1_takePast 3) (hR : bb_r X 1) (hr : X.meth.sig.returnType = none) (h : Nat → Nat) (g : Nat → Nat) {z : (bb_O × bb_O)} (R : bb_R X none (wX1 X.cs h z.1 ++ wX1 X.cs g z.2)) {s0 : bb_O} {s1 : bb_O} (hf : F_X1_takePast_0 s0 s1 = some z) : bb_Z X 3 (wX1 X.cs h s0 ++ wX1 X.cs g s1) 0 [(0, .ref (h 0)), (1, .ref (g 0))] [] := by
  refine z_aload_n (pc := 0) (i := 0) C 0 dX1_takePast_0 rfl rfl ?_
  refine z_aload_n (pc := 1) (i := 1) C 1 dX1_takePast_1 rfl rfl ?_
  refine z_get (pc := 2) (ci := 1) C (.int (s1.1 1)) bi_X1 rfl 10 1 (by decide) rfl bf_X1_20 rfl rfl dX1_takePast_2 ?_
  refine z_put (pc := 5) (ci := 1) (ty := .int) (ws' := wX1 X.cs h (bb_sf s0 1 (s1.1 1)) ++ wX1 X.cs g s1) C bi_X1 tyX1_ok nmX1 rfl 0 1 (by decide) rfl bf_X1_20 rfl rfl rfl rfl rfl (Nat.le_of_ble_eq_true rfl) rfl dX1_takePast_5 ?_
  refine z_aload_n (pc := 8) (i := 0) C 0 dX1_takePast_8 rfl rfl ?_
  refine z_aload_n (pc := 9) (i := 1) C 1 dX1_takePast_9 rfl rfl ?_
  refine z_get (pc := 10) (ci := 1) C (.int (s1.1 2)) bi_X1 rfl 10 2 (by decide) rfl bf_X1_16 rfl rfl dX1_takePast_10 ?_
  refine z_put (pc := 13) (ci := 1) (ty := .int) (ws' := wX1 X.cs h (bb_sf (bb_sf s0 1 (s1.1 1)) 2 (s1.1 2)) ++ wX1 X.cs g s1) C bi_X1 tyX1_ok nmX1 rfl 0 2 (by decide) rfl bf_X1_16 rfl rfl rfl rfl rfl (Nat.le_of_ble_eq_true rfl) rfl dX1_takePast_13 ?_
  refine z_iconst (pc := 16) C (0 : Int32) dX1_takePast_16 (by decide) ?_
  refine z_istore_n (pc := 17) (i := 2) (lv' := [(2, .int ((0 : Int32))), (0, .ref (h 0)), (1, .ref (g 0))]) C dX1_takePast_17 rfl (by decide) rfl ?_
  refine z_lv [1, 2, 0] rfl ?_
  exact B_X1_takePast_18 C hR hr h g R  bb_N _ _ _ hf
theorem c_X1_takePast {l : Launch} {D : va_G} {cs : Nat → ClassId} (h : Nat → Nat) (g : Nat → Nat) {s0 : bb_O} {s1 : bb_O} {z : (bb_O × bb_O)} (hf : F_X1_takePast_0 s0 s1 = some z) : bb_M l yX1_takePast cX1_takePast 3 none 1 D cs [.ref (h 0), .ref (g 0)] none (wX1 cs h s0 ++ wX1 cs g s1) (wX1 cs h z.1 ++ wX1 cs g z.2) := bb_mg (by decide) rfl (Nat.le_of_ble_eq_true rfl) rfl (fun X hl hD hcs C hR hr R => by
  subst hl
  subst hD
  subst hcs
  exact B_X1_takePast_0 C hR hr h g R hf)
/-! X2_isMissing: reads, level 1 -/
noncomputable def F_X2_isMissing_13 (s0 : bb_O) (y0 : Int32) : Option Int32 := bb_g (bb_z y0) (some y0)
set_option maxHeartbeats 4000000 in
set_option maxRecDepth 100000 in
theorem B_X2_isMissing_13 {X : bb_X} (C : bb_C X RX2 cX2_isMissing 1) (hR : bb_r X 1) (hr : X.meth.sig.returnType = (some .boolean)) (h : Nat → Nat) {z : Int32} {s0 : bb_O} (R : bb_R X (some (.int z)) (wX2 X.cs h s0)) {y0 : Int32} (hf : F_X2_isMissing_13 s0 y0 = some z) : bb_Z X 1 (wX2 X.cs h s0) 13 [] [.int y0] := by
  obtain ⟨hz1, hf⟩ := bb_g_some hf
  obtain rfl := Option.some.inj hf
  exact z_zret (pc := 13) C hr (bb_nz hz1) R dX2_isMissing_13
noncomputable def F_X2_isMissing_0 (s0 : bb_O) : Option Int32 := if (s0.1 0) = ((-1 : Int32)) then (F_X2_isMissing_13 s0 ((1 : Int32))) else (F_X2_isMissing_13 s0 ((0 : Int32)))
set_option maxHeartbeats 4000000 in
set_option maxRecDepth 100000 in
theorem B_X2_isMissing_0 {X : bb_X} (C : bb_C X RX2 cX2_isMissing 1) (hR : bb_r X 1) (hr : X.meth.sig.returnType = (some .boolean)) (h : Nat → Nat) {z : Int32} {s0 : bb_O} (R : bb_R X (some (.int z)) (wX2 X.cs h s0))  (hf : F_X2_isMissing_0 s0 = some z) : bb_Z X 1 (wX2 X.cs h s0) 0 [(0, .ref (h 0))] [] := by
  refine z_aload_n (pc := 0) (i := 0) C 0 dX2_isMissing_0 rfl rfl ?_
  refine z_get (pc := 1) (ci := 2) C (.int (s0.1 0)) bi_X2 rfl 0 0 (by decide) rfl bf_X2_11 rfl rfl dX2_isMissing_1 ?_
  refine z_iconst (pc := 4) C (-1 : Int32) dX2_isMissing_4 (by decide) ?_
  refine z_icmp_ne (pc := 5) C 12 dX2_isMissing_5 (by decide) (fun hc1 => ?_) (fun hc1 => ?_)
  · have hf := bb_e hf hc1
    refine z_iconst (pc := 12) C (0 : Int32) dX2_isMissing_12 (by decide) ?_
    refine z_lv [] rfl ?_
    exact B_X2_isMissing_13 C hR hr h R  hf
  · have hf := bb_t hf hc1
    refine z_iconst (pc := 8) C (1 : Int32) dX2_isMissing_8 (by decide) ?_
    refine z_goto (pc := 9) C 13 dX2_isMissing_9 (by decide) ?_
    refine z_lv [] rfl ?_
    exact B_X2_isMissing_13 C hR hr h R  hf
theorem c_X2_isMissing {l : Launch} {D : va_G} {cs : Nat → ClassId} (h : Nat → Nat) {s0 : bb_O} {z : Int32} (hf : F_X2_isMissing_0 s0 = some z) : bb_M l yX2_isMissing cX2_isMissing 1 (some .boolean) 1 D cs [.ref (h 0)] (some (.int z)) (wX2 cs h s0) (wX2 cs h s0) := bb_mg (by decide) rfl (Nat.le_of_ble_eq_true rfl) rfl (fun X hl hD hcs C hR hr R => by
  subst hl
  subst hD
  subst hcs
  exact B_X2_isMissing_0 C hR hr h R hf)
/-! X2_renew: writes, level 1 -/
noncomputable def G_X2_renew_12 (k12 : bb_O → Int32 → Option (bb_O)) (s0 : bb_O) (x3 : Int32) : Option (bb_O) := if ((24 : Int32)) ≤ x3 then (some s0) else (bb_g (vp_in x3 24) (k12 (bb_sB s0 2 (vp_updL (s0.2.2 2) x3.toNatClampNeg ((0 : Int64)))) (x3 + 1)))
noncomputable def F_X2_renew_12  : Nat → bb_O → Int32 → Option (bb_O)
  | 0, _, _ => none
  | n + 1, s0, x3 => G_X2_renew_12  (F_X2_renew_12  n) s0 x3
set_option maxHeartbeats 4000000 in
set_option maxRecDepth 100000 in
theorem A_X2_renew_12 {X : bb_X} (C : bb_C X RX2 cX2_renew 4) (hR : bb_r X 1) (hr : X.meth.sig.returnType = none) (h : Nat → Nat) {z : (bb_O)} (R : bb_R X none (wX2 X.cs h z)) {k12 : bb_O → Int32 → Option (bb_O)} (hk12 : ∀ (s0 : bb_O) (x3 : Int32), k12 s0 x3 = some z → bb_Z X 4 (wX2 X.cs h s0) 12 [(0, .ref (h 0)), (3, .int x3)] []) {s0 : bb_O} {x3 : Int32} (hf : G_X2_renew_12 k12 s0 x3 = some z) : bb_Z X 4 (wX2 X.cs h s0) 12 [(0, .ref (h 0)), (3, .int x3)] [] := by
  refine z_iload_n (pc := 12) (i := 3) C 1 dX2_renew_12 rfl rfl ?_
  refine z_bipush (pc := 13) C (24 : Int32) dX2_renew_13 (by decide) ?_
  refine z_icmp_ge (pc := 15) C 31 dX2_renew_15 (by decide) (fun hc1 => ?_) (fun hc1 => ?_)
  · have hf := bb_t hf hc1
    obtain rfl := Option.some.inj hf
    exact z_vret (pc := 31) C hr R dX2_renew_31
  · have hf := bb_e hf hc1
    refine z_aload_n (pc := 18) (i := 0) C 0 dX2_renew_18 rfl rfl ?_
    refine z_get (pc := 19) (ci := 2) C (.ref (h 3)) bi_X2 rfl 0 2 (by decide) rfl bf_X2_15 rfl rfl dX2_renew_19 ?_
    refine z_iload_n (pc := 22) (i := 3) C 1 dX2_renew_22 rfl rfl ?_
    refine z_lconst (pc := 23) C (0 : Int64) dX2_renew_23 (by decide) ?_
    obtain ⟨hv2, hf⟩ := bb_g_some hf
    refine z_last (pc := 24) (ws' := wX2 X.cs h (bb_sB s0 2 (vp_updL (s0.2.2 2) x3.toNatClampNeg ((0 : Int64))))) C 1 1 (x3.toNatClampNeg) rfl rfl hv2 rfl rfl dX2_renew_24 ?_
    refine z_iinc (pc := 25) (lv' := [(3, .int (x3 + 1)), (0, .ref (h 0))]) C (x3 + 1) 1 dX2_renew_25 rfl rfl (by decide) rfl ?_
    refine z_goto (pc := 28) C 12 dX2_renew_28 (by decide) ?_
    refine z_lv [1, 0] rfl ?_
    exact hk12 _ _ hf
theorem B_X2_renew_12 {X : bb_X} (C : bb_C X RX2 cX2_renew 4) (hR : bb_r X 1) (hr : X.meth.sig.returnType = none) (h : Nat → Nat) {z : (bb_O)} (R : bb_R X none (wX2 X.cs h z)) : ∀ (n : Nat) (s0 : bb_O) (x3 : Int32), F_X2_renew_12  n s0 x3 = some z → bb_Z X 4 (wX2 X.cs h s0) 12 [(0, .ref (h 0)), (3, .int x3)] [] := by
  intro n
  induction n with
  | zero =>
    intro s0 x3 hf
    cases hf
  | succ n ih =>
    intro s0 x3 hf
    exact A_X2_renew_12 C hR hr h R  ih hf
noncomputable def F_X2_renew_0 (s0 : bb_O) (x1 : Int32) (x2 : Int32) : Option (bb_O) := F_X2_renew_12 bb_N (bb_sf (bb_sf s0 0 x1) 1 x2) ((0 : Int32))
set_option maxHeartbeats 4000000 in
set_option maxRecDepth 100000 in
theorem B_X2_renew_0 {X : bb_X} (C : bb_C X RX2 cX2_renew 4) (hR : bb_r X 1) (hr : X.meth.sig.returnType = none) (h : Nat → Nat) {z : (bb_O)} (R : bb_R X none (wX2 X.cs h z)) {s0 : bb_O} {x1 : Int32} {x2 : Int32} (hf : F_X2_renew_0 s0 x1 x2 = some z) : bb_Z X 4 (wX2 X.cs h s0) 0 [(0, .ref (h 0)), (1, .int x1), (2, .int x2)] [] := by
  refine z_aload_n (pc := 0) (i := 0) C 0 dX2_renew_0 rfl rfl ?_
  refine z_iload_n (pc := 1) (i := 1) C 1 dX2_renew_1 rfl rfl ?_
  refine z_put (pc := 2) (ci := 2) (ty := .int) (ws' := wX2 X.cs h (bb_sf s0 0 x1)) C bi_X2 tyX2_ok nmX2 rfl 0 0 (by decide) rfl bf_X2_11 rfl rfl rfl rfl rfl (Nat.le_of_ble_eq_true rfl) rfl dX2_renew_2 ?_
  refine z_aload_n (pc := 5) (i := 0) C 0 dX2_renew_5 rfl rfl ?_
  refine z_iload_n (pc := 6) (i := 2) C 2 dX2_renew_6 rfl rfl ?_
  refine z_put (pc := 7) (ci := 2) (ty := .int) (ws' := wX2 X.cs h (bb_sf (bb_sf s0 0 x1) 1 x2)) C bi_X2 tyX2_ok nmX2 rfl 0 1 (by decide) rfl bf_X2_19 rfl rfl rfl rfl rfl (Nat.le_of_ble_eq_true rfl) rfl dX2_renew_7 ?_
  refine z_iconst (pc := 10) C (0 : Int32) dX2_renew_10 (by decide) ?_
  refine z_istore_n (pc := 11) (i := 3) (lv' := [(3, .int ((0 : Int32))), (0, .ref (h 0)), (1, .int x1), (2, .int x2)]) C dX2_renew_11 rfl (by decide) rfl ?_
  refine z_lv [1, 0] rfl ?_
  exact B_X2_renew_12 C hR hr h R  bb_N _ _ hf
theorem c_X2_renew {l : Launch} {D : va_G} {cs : Nat → ClassId} (h : Nat → Nat) {s0 : bb_O} {x1 : Int32} {x2 : Int32} {z : (bb_O)} (hf : F_X2_renew_0 s0 x1 x2 = some z) : bb_M l yX2_renew cX2_renew 4 none 1 D cs [.ref (h 0), .int x1, .int x2] none (wX2 cs h s0) (wX2 cs h z) := bb_mg (by decide) rfl (Nat.le_of_ble_eq_true rfl) rfl (fun X hl hD hcs C hR hr R => by
  subst hl
  subst hD
  subst hcs
  exact B_X2_renew_0 C hR hr h R hf)
/-! X2_lose: writes, level 1 -/
noncomputable def F_X2_lose_0 (s0 : bb_O) : Option (bb_O) := some (bb_sf (bb_sf s0 0 ((-1 : Int32))) 1 ((0 : Int32)))
set_option maxHeartbeats 4000000 in
set_option maxRecDepth 100000 in
theorem B_X2_lose_0 {X : bb_X} (C : bb_C X RX2 cX2_lose 1) (hR : bb_r X 1) (hr : X.meth.sig.returnType = none) (h : Nat → Nat) {z : (bb_O)} (R : bb_R X none (wX2 X.cs h z)) {s0 : bb_O} (hf : F_X2_lose_0 s0 = some z) : bb_Z X 1 (wX2 X.cs h s0) 0 [(0, .ref (h 0))] [] := by
  refine z_aload_n (pc := 0) (i := 0) C 0 dX2_lose_0 rfl rfl ?_
  refine z_iconst (pc := 1) C (-1 : Int32) dX2_lose_1 (by decide) ?_
  refine z_put (pc := 2) (ci := 2) (ty := .int) (ws' := wX2 X.cs h (bb_sf s0 0 ((-1 : Int32)))) C bi_X2 tyX2_ok nmX2 rfl 0 0 (by decide) rfl bf_X2_11 rfl rfl rfl rfl rfl (Nat.le_of_ble_eq_true rfl) rfl dX2_lose_2 ?_
  refine z_aload_n (pc := 5) (i := 0) C 0 dX2_lose_5 rfl rfl ?_
  refine z_iconst (pc := 6) C (0 : Int32) dX2_lose_6 (by decide) ?_
  refine z_put (pc := 7) (ci := 2) (ty := .int) (ws' := wX2 X.cs h (bb_sf (bb_sf s0 0 ((-1 : Int32))) 1 ((0 : Int32)))) C bi_X2 tyX2_ok nmX2 rfl 0 1 (by decide) rfl bf_X2_19 rfl rfl rfl rfl rfl (Nat.le_of_ble_eq_true rfl) rfl dX2_lose_7 ?_
  obtain rfl := Option.some.inj hf
  exact z_vret (pc := 10) C hr R dX2_lose_10
theorem c_X2_lose {l : Launch} {D : va_G} {cs : Nat → ClassId} (h : Nat → Nat) {s0 : bb_O} {z : (bb_O)} (hf : F_X2_lose_0 s0 = some z) : bb_M l yX2_lose cX2_lose 1 none 1 D cs [.ref (h 0)] none (wX2 cs h s0) (wX2 cs h z) := bb_mg (by decide) rfl (Nat.le_of_ble_eq_true rfl) rfl (fun X hl hD hcs C hR hr R => by
  subst hl
  subst hD
  subst hcs
  exact B_X2_lose_0 C hR hr h R hf)
/-! X2_reaches: reads, level 1 -/
noncomputable def F_X2_reaches_31 (s0 : bb_O) (y0 : Int32) : Option Int32 := bb_g (bb_z y0) (some y0)
set_option maxHeartbeats 4000000 in
set_option maxRecDepth 100000 in
theorem B_X2_reaches_31 {X : bb_X} (C : bb_C X RX2 cX2_reaches 3) (hR : bb_r X 1) (hr : X.meth.sig.returnType = (some .boolean)) (h : Nat → Nat) {z : Int32} {s0 : bb_O} (R : bb_R X (some (.int z)) (wX2 X.cs h s0)) {y0 : Int32} (hf : F_X2_reaches_31 s0 y0 = some z) : bb_Z X 3 (wX2 X.cs h s0) 31 [] [.int y0] := by
  obtain ⟨hz1, hf⟩ := bb_g_some hf
  obtain rfl := Option.some.inj hf
  exact z_zret (pc := 31) C hr (bb_nz hz1) R dX2_reaches_31
noncomputable def F_X2_reaches_30 (s0 : bb_O) : Option Int32 := F_X2_reaches_31 s0 ((0 : Int32))
set_option maxHeartbeats 4000000 in
set_option maxRecDepth 100000 in
theorem B_X2_reaches_30 {X : bb_X} (C : bb_C X RX2 cX2_reaches 3) (hR : bb_r X 1) (hr : X.meth.sig.returnType = (some .boolean)) (h : Nat → Nat) {z : Int32} {s0 : bb_O} (R : bb_R X (some (.int z)) (wX2 X.cs h s0))  (hf : F_X2_reaches_30 s0 = some z) : bb_Z X 3 (wX2 X.cs h s0) 30 [] [] := by
  refine z_iconst (pc := 30) C (0 : Int32) dX2_reaches_30 (by decide) ?_
  exact B_X2_reaches_31 C hR hr h R  hf
noncomputable def F_X2_reaches_0 (s0 : bb_O) (x1 : Int32) (x2 : Int32) : Option Int32 := if x1 < 0 then (F_X2_reaches_30 s0) else (if x2 < 0 then (F_X2_reaches_30 s0) else (if (s0.1 1) < x2 then (F_X2_reaches_30 s0) else (if ((s0.1 1) - x2) < x1 then (F_X2_reaches_30 s0) else (F_X2_reaches_31 s0 ((1 : Int32))))))
set_option maxHeartbeats 4000000 in
set_option maxRecDepth 100000 in
theorem B_X2_reaches_0 {X : bb_X} (C : bb_C X RX2 cX2_reaches 3) (hR : bb_r X 1) (hr : X.meth.sig.returnType = (some .boolean)) (h : Nat → Nat) {z : Int32} {s0 : bb_O} (R : bb_R X (some (.int z)) (wX2 X.cs h s0)) {x1 : Int32} {x2 : Int32} (hf : F_X2_reaches_0 s0 x1 x2 = some z) : bb_Z X 3 (wX2 X.cs h s0) 0 [(0, .ref (h 0)), (1, .int x1), (2, .int x2)] [] := by
  refine z_iload_n (pc := 0) (i := 1) C 1 dX2_reaches_0 rfl rfl ?_
  refine z_if_lt (pc := 1) C 30 dX2_reaches_1 (by decide) (fun hc1 => ?_) (fun hc1 => ?_)
  · have hf := bb_t hf hc1
    refine z_lv [] rfl ?_
    exact B_X2_reaches_30 C hR hr h R  hf
  · have hf := bb_e hf hc1
    refine z_iload_n (pc := 4) (i := 2) C 2 dX2_reaches_4 rfl rfl ?_
    refine z_if_lt (pc := 5) C 30 dX2_reaches_5 (by decide) (fun hc2 => ?_) (fun hc2 => ?_)
    · have hf := bb_t hf hc2
      refine z_lv [] rfl ?_
      exact B_X2_reaches_30 C hR hr h R  hf
    · have hf := bb_e hf hc2
      refine z_iload_n (pc := 8) (i := 2) C 2 dX2_reaches_8 rfl rfl ?_
      refine z_aload_n (pc := 9) (i := 0) C 0 dX2_reaches_9 rfl rfl ?_
      refine z_get (pc := 10) (ci := 2) C (.int (s0.1 1)) bi_X2 rfl 0 1 (by decide) rfl bf_X2_19 rfl rfl dX2_reaches_10 ?_
      refine z_icmp_gt (pc := 13) C 30 dX2_reaches_13 (by decide) (fun hc3 => ?_) (fun hc3 => ?_)
      · have hf := bb_t hf hc3
        refine z_lv [] rfl ?_
        exact B_X2_reaches_30 C hR hr h R  hf
      · have hf := bb_e hf hc3
        refine z_iload_n (pc := 16) (i := 1) C 1 dX2_reaches_16 rfl rfl ?_
        refine z_aload_n (pc := 17) (i := 0) C 0 dX2_reaches_17 rfl rfl ?_
        refine z_get (pc := 18) (ci := 2) C (.int (s0.1 1)) bi_X2 rfl 0 1 (by decide) rfl bf_X2_19 rfl rfl dX2_reaches_18 ?_
        refine z_iload_n (pc := 21) (i := 2) C 2 dX2_reaches_21 rfl rfl ?_
        refine z_isub (pc := 22) C dX2_reaches_22 ?_
        refine z_icmp_gt (pc := 23) C 30 dX2_reaches_23 (by decide) (fun hc4 => ?_) (fun hc4 => ?_)
        · have hf := bb_t hf hc4
          refine z_lv [] rfl ?_
          exact B_X2_reaches_30 C hR hr h R  hf
        · have hf := bb_e hf hc4
          refine z_iconst (pc := 26) C (1 : Int32) dX2_reaches_26 (by decide) ?_
          refine z_goto (pc := 27) C 31 dX2_reaches_27 (by decide) ?_
          refine z_lv [] rfl ?_
          exact B_X2_reaches_31 C hR hr h R  hf
theorem c_X2_reaches {l : Launch} {D : va_G} {cs : Nat → ClassId} (h : Nat → Nat) {s0 : bb_O} {x1 : Int32} {x2 : Int32} {z : Int32} (hf : F_X2_reaches_0 s0 x1 x2 = some z) : bb_M l yX2_reaches cX2_reaches 3 (some .boolean) 1 D cs [.ref (h 0), .int x1, .int x2] (some (.int z)) (wX2 cs h s0) (wX2 cs h s0) := bb_mg (by decide) rfl (Nat.le_of_ble_eq_true rfl) rfl (fun X hl hD hcs C hR hr R => by
  subst hl
  subst hD
  subst hcs
  exact B_X2_reaches_0 C hR hr h R hf)
/-! X2_faultOf: reads, level 2 -/
noncomputable def F_X2_faultOf_36 (s0 : bb_O) (y0 : Int32) : Option Int32 := some y0
set_option maxHeartbeats 4000000 in
set_option maxRecDepth 100000 in
theorem B_X2_faultOf_36 {X : bb_X} (C : bb_C X RX2 cX2_faultOf 4) (hR : bb_r X 2) (hr : X.meth.sig.returnType = (some .int)) (h : Nat → Nat) {z : Int32} {s0 : bb_O} (R : bb_R X (some (.int z)) (wX2 X.cs h s0)) {y0 : Int32} (hf : F_X2_faultOf_36 s0 y0 = some z) : bb_Z X 4 (wX2 X.cs h s0) 36 [] [.int y0] := by
  obtain rfl := Option.some.inj hf
  exact z_iret (pc := 36) C hr R dX2_faultOf_36
noncomputable def F_X2_faultOf_0 (s0 : bb_O) (x1 : Int32) (x2 : Int32) (x3 : Int32) : Option Int32 := (F_X2_isMissing_0 s0).bind (fun q1 => if q1 = 0 then (if (s0.1 0) = x1 then ((F_X2_reaches_0 s0 x2 x3).bind (fun q4 => if q4 = 0 then (F_X2_faultOf_36 s0 ((-13 : Int32))) else (F_X2_faultOf_36 s0 ((0 : Int32))))) else (some ((-12 : Int32)))) else (some ((-11 : Int32))))
set_option maxHeartbeats 4000000 in
set_option maxRecDepth 100000 in
theorem B_X2_faultOf_0 {X : bb_X} (C : bb_C X RX2 cX2_faultOf 4) (hR : bb_r X 2) (hr : X.meth.sig.returnType = (some .int)) (h : Nat → Nat) {z : Int32} {s0 : bb_O} (R : bb_R X (some (.int z)) (wX2 X.cs h s0)) {x1 : Int32} {x2 : Int32} {x3 : Int32} (hf : F_X2_faultOf_0 s0 x1 x2 x3 = some z) : bb_Z X 4 (wX2 X.cs h s0) 0 [(0, .ref (h 0)), (1, .int x1), (2, .int x2), (3, .int x3)] [] := by
  refine z_aload_n (pc := 0) (i := 0) C 0 dX2_faultOf_0 rfl rfl ?_
  obtain ⟨q1, hq1, hf⟩ := bb_b_some hf
  refine z_callVi (pc := 1) (ci := 2) (q0 := 0) (As := []) (rest := []) C (hR.le (by decide)) (c_X2_isMissing h hq1) (bb_cut_self _ _) bv_X2_isMissing bm_X2_22 rfl rfl rfl rfl (Nat.le_of_ble_eq_true rfl) dX2_faultOf_1 ?_
  refine z_if_eq (pc := 4) C 10 dX2_faultOf_4 (by decide) (fun hc2 => ?_) (fun hc2 => ?_)
  · have hf := bb_t hf hc2
    refine z_aload_n (pc := 10) (i := 0) C 0 dX2_faultOf_10 rfl rfl ?_
    refine z_get (pc := 11) (ci := 2) C (.int (s0.1 0)) bi_X2 rfl 0 0 (by decide) rfl bf_X2_11 rfl rfl dX2_faultOf_11 ?_
    refine z_iload_n (pc := 14) (i := 1) C 1 dX2_faultOf_14 rfl rfl ?_
    refine z_icmp_eq (pc := 15) C 21 dX2_faultOf_15 (by decide) (fun hc3 => ?_) (fun hc3 => ?_)
    · have hf := bb_t hf hc3
      refine z_aload_n (pc := 21) (i := 0) C 0 dX2_faultOf_21 rfl rfl ?_
      refine z_iload_n (pc := 22) (i := 2) C 2 dX2_faultOf_22 rfl rfl ?_
      refine z_iload_n (pc := 23) (i := 3) C 3 dX2_faultOf_23 rfl rfl ?_
      obtain ⟨q4, hq4, hf⟩ := bb_b_some hf
      refine z_callVi (pc := 24) (ci := 2) (q0 := 0) (As := [.int x2, .int x3]) (rest := []) C (hR.le (by decide)) (c_X2_reaches h hq4) (bb_cut_self _ _) bv_X2_reaches bm_X2_26 rfl rfl rfl rfl (Nat.le_of_ble_eq_true rfl) dX2_faultOf_24 ?_
      refine z_if_eq (pc := 27) C 34 dX2_faultOf_27 (by decide) (fun hc5 => ?_) (fun hc5 => ?_)
      · have hf := bb_t hf hc5
        refine z_bipush (pc := 34) C (-13 : Int32) dX2_faultOf_34 (by decide) ?_
        refine z_lv [] rfl ?_
        exact B_X2_faultOf_36 C hR hr h R  hf
      · have hf := bb_e hf hc5
        refine z_iconst (pc := 30) C (0 : Int32) dX2_faultOf_30 (by decide) ?_
        refine z_goto (pc := 31) C 36 dX2_faultOf_31 (by decide) ?_
        refine z_lv [] rfl ?_
        exact B_X2_faultOf_36 C hR hr h R  hf
    · have hf := bb_e hf hc3
      refine z_bipush (pc := 18) C (-12 : Int32) dX2_faultOf_18 (by decide) ?_
      obtain rfl := Option.some.inj hf
      exact z_iret (pc := 20) C hr R dX2_faultOf_20
  · have hf := bb_e hf hc2
    refine z_bipush (pc := 7) C (-11 : Int32) dX2_faultOf_7 (by decide) ?_
    obtain rfl := Option.some.inj hf
    exact z_iret (pc := 9) C hr R dX2_faultOf_9
theorem c_X2_faultOf {l : Launch} {D : va_G} {cs : Nat → ClassId} (h : Nat → Nat) {s0 : bb_O} {x1 : Int32} {x2 : Int32} {x3 : Int32} {z : Int32} (hf : F_X2_faultOf_0 s0 x1 x2 x3 = some z) : bb_M l yX2_faultOf cX2_faultOf 4 (some .int) 2 D cs [.ref (h 0), .int x1, .int x2, .int x3] (some (.int z)) (wX2 cs h s0) (wX2 cs h s0) := bb_mg (by decide) rfl (Nat.le_of_ble_eq_true rfl) rfl (fun X hl hD hcs C hR hr R => by
  subst hl
  subst hD
  subst hcs
  exact B_X2_faultOf_0 C hR hr h R hf)
/-! X2_put: writes, level 2 -/
noncomputable def F_X2_put_85 (s0 : bb_O) : Option (bb_O) := some s0
set_option maxHeartbeats 4000000 in
set_option maxRecDepth 100000 in
theorem B_X2_put_85 {X : bb_X} (C : bb_C X RX2 cX2_put 4) (hR : bb_r X 2) (hr : X.meth.sig.returnType = none) (h : Nat → Nat) {z : (bb_O)} (R : bb_R X none (wX2 X.cs h z)) {s0 : bb_O} (hf : F_X2_put_85 s0 = some z) : bb_Z X 4 (wX2 X.cs h s0) 85 [] [] := by
  obtain rfl := Option.some.inj hf
  exact z_vret (pc := 85) C hr R dX2_put_85
noncomputable def F_X2_put_0 (s0 : bb_O) (x1 : Int32) (x2 : Int64) : Option (bb_O) := (F_X2_reaches_0 s0 x1 ((1 : Int32))).bind (fun q1 => if q1 = 0 then (some s0) else (if (s0.1 0) = 0 then (bb_g (vp_in x1 24) (F_X2_put_85 (bb_sB s0 2 (vp_updL (s0.2.2 2) x1.toNatClampNeg (((x2.toInt32).toInt8.toInt32).toInt64))))) else (if (s0.1 0) = 1 then (bb_g (vp_in x1 24) (F_X2_put_85 (bb_sB s0 2 (vp_updL (s0.2.2 2) x1.toNatClampNeg (((x2.toInt32).toInt16.toInt32).toInt64))))) else (if (s0.1 0) = 2 then (bb_g (vp_in x1 24) (F_X2_put_85 (bb_sB s0 2 (vp_updL (s0.2.2 2) x1.toNatClampNeg ((x2.toInt32).toInt64))))) else (bb_g (vp_in x1 24) (F_X2_put_85 (bb_sB s0 2 (vp_updL (s0.2.2 2) x1.toNatClampNeg x2))))))))
set_option maxHeartbeats 4000000 in
set_option maxRecDepth 100000 in
theorem B_X2_put_0 {X : bb_X} (C : bb_C X RX2 cX2_put 4) (hR : bb_r X 2) (hr : X.meth.sig.returnType = none) (h : Nat → Nat) {z : (bb_O)} (R : bb_R X none (wX2 X.cs h z)) {s0 : bb_O} {x1 : Int32} {x2 : Int64} (hf : F_X2_put_0 s0 x1 x2 = some z) : bb_Z X 4 (wX2 X.cs h s0) 0 [(0, .ref (h 0)), (1, .int x1), (2, .long x2)] [] := by
  refine z_aload_n (pc := 0) (i := 0) C 0 dX2_put_0 rfl rfl ?_
  refine z_iload_n (pc := 1) (i := 1) C 1 dX2_put_1 rfl rfl ?_
  refine z_iconst (pc := 2) C (1 : Int32) dX2_put_2 (by decide) ?_
  obtain ⟨q1, hq1, hf⟩ := bb_b_some hf
  refine z_callVi (pc := 3) (ci := 2) (q0 := 0) (As := [.int x1, .int ((1 : Int32))]) (rest := []) C (hR.le (by decide)) (c_X2_reaches h hq1) (bb_cut_self _ _) bv_X2_reaches bm_X2_26 rfl rfl rfl rfl (Nat.le_of_ble_eq_true rfl) dX2_put_3 ?_
  refine z_if_ne (pc := 6) C 10 dX2_put_6 (by decide) (fun hc2 => ?_) (fun hc2 => ?_)
  · have hf := bb_e hf hc2
    refine z_aload_n (pc := 10) (i := 0) C 0 dX2_put_10 rfl rfl ?_
    refine z_get (pc := 11) (ci := 2) C (.int (s0.1 0)) bi_X2 rfl 0 0 (by decide) rfl bf_X2_11 rfl rfl dX2_put_11 ?_
    by_cases hc3 : (s0.1 0) = 0
    · have hf := bb_t hf hc3
      refine z_tabIn (pc := 14) C 40 (0 : Int32) dX2_put_14 hc3 (by decide) (by decide) rfl (by decide) ?_
      refine z_aload_n (pc := 40) (i := 0) C 0 dX2_put_40 rfl rfl ?_
      refine z_get (pc := 41) (ci := 2) C (.ref (h 3)) bi_X2 rfl 0 2 (by decide) rfl bf_X2_15 rfl rfl dX2_put_41 ?_
      refine z_iload_n (pc := 44) (i := 1) C 1 dX2_put_44 rfl rfl ?_
      refine z_lload_n (pc := 45) (i := 2) C 2 dX2_put_45 rfl rfl ?_
      refine z_l2i (pc := 46) C dX2_put_46 ?_
      refine z_i2b (pc := 47) C dX2_put_47 ?_
      refine z_i2l (pc := 48) C dX2_put_48 ?_
      obtain ⟨hv4, hf⟩ := bb_g_some hf
      refine z_last (pc := 49) (ws' := wX2 X.cs h (bb_sB s0 2 (vp_updL (s0.2.2 2) x1.toNatClampNeg (((x2.toInt32).toInt8.toInt32).toInt64)))) C 1 1 (x1.toNatClampNeg) rfl rfl hv4 rfl rfl dX2_put_49 ?_
      refine z_goto (pc := 50) C 85 dX2_put_50 (by decide) ?_
      refine z_lv [] rfl ?_
      exact B_X2_put_85 C hR hr h R  hf
    · have hf := bb_e hf hc3
      by_cases hc5 : (s0.1 0) = 1
      · have hf := bb_t hf hc5
        refine z_tabIn (pc := 14) C 53 (1 : Int32) dX2_put_14 hc5 (by decide) (by decide) rfl (by decide) ?_
        refine z_aload_n (pc := 53) (i := 0) C 0 dX2_put_53 rfl rfl ?_
        refine z_get (pc := 54) (ci := 2) C (.ref (h 3)) bi_X2 rfl 0 2 (by decide) rfl bf_X2_15 rfl rfl dX2_put_54 ?_
        refine z_iload_n (pc := 57) (i := 1) C 1 dX2_put_57 rfl rfl ?_
        refine z_lload_n (pc := 58) (i := 2) C 2 dX2_put_58 rfl rfl ?_
        refine z_l2i (pc := 59) C dX2_put_59 ?_
        refine z_i2s (pc := 60) C dX2_put_60 ?_
        refine z_i2l (pc := 61) C dX2_put_61 ?_
        obtain ⟨hv6, hf⟩ := bb_g_some hf
        refine z_last (pc := 62) (ws' := wX2 X.cs h (bb_sB s0 2 (vp_updL (s0.2.2 2) x1.toNatClampNeg (((x2.toInt32).toInt16.toInt32).toInt64)))) C 1 1 (x1.toNatClampNeg) rfl rfl hv6 rfl rfl dX2_put_62 ?_
        refine z_goto (pc := 63) C 85 dX2_put_63 (by decide) ?_
        refine z_lv [] rfl ?_
        exact B_X2_put_85 C hR hr h R  hf
      · have hf := bb_e hf hc5
        by_cases hc7 : (s0.1 0) = 2
        · have hf := bb_t hf hc7
          refine z_tabIn (pc := 14) C 66 (2 : Int32) dX2_put_14 hc7 (by decide) (by decide) rfl (by decide) ?_
          refine z_aload_n (pc := 66) (i := 0) C 0 dX2_put_66 rfl rfl ?_
          refine z_get (pc := 67) (ci := 2) C (.ref (h 3)) bi_X2 rfl 0 2 (by decide) rfl bf_X2_15 rfl rfl dX2_put_67 ?_
          refine z_iload_n (pc := 70) (i := 1) C 1 dX2_put_70 rfl rfl ?_
          refine z_lload_n (pc := 71) (i := 2) C 2 dX2_put_71 rfl rfl ?_
          refine z_l2i (pc := 72) C dX2_put_72 ?_
          refine z_i2l (pc := 73) C dX2_put_73 ?_
          obtain ⟨hv8, hf⟩ := bb_g_some hf
          refine z_last (pc := 74) (ws' := wX2 X.cs h (bb_sB s0 2 (vp_updL (s0.2.2 2) x1.toNatClampNeg ((x2.toInt32).toInt64)))) C 1 1 (x1.toNatClampNeg) rfl rfl hv8 rfl rfl dX2_put_74 ?_
          refine z_goto (pc := 75) C 85 dX2_put_75 (by decide) ?_
          refine z_lv [] rfl ?_
          exact B_X2_put_85 C hR hr h R  hf
        · have hf := bb_e hf hc7
          refine z_tabOut (pc := 14) C 78 dX2_put_14 (by have a0 := lv_neT hc3 (show (0 : Int32).toInt = 0 by decide); have a1 := lv_neT hc5 (show (1 : Int32).toInt = 1 by decide); have a2 := lv_neT hc7 (show (2 : Int32).toInt = 2 by decide); omega) (by decide) ?_
          refine z_aload_n (pc := 78) (i := 0) C 0 dX2_put_78 rfl rfl ?_
          refine z_get (pc := 79) (ci := 2) C (.ref (h 3)) bi_X2 rfl 0 2 (by decide) rfl bf_X2_15 rfl rfl dX2_put_79 ?_
          refine z_iload_n (pc := 82) (i := 1) C 1 dX2_put_82 rfl rfl ?_
          refine z_lload_n (pc := 83) (i := 2) C 2 dX2_put_83 rfl rfl ?_
          obtain ⟨hv9, hf⟩ := bb_g_some hf
          refine z_last (pc := 84) (ws' := wX2 X.cs h (bb_sB s0 2 (vp_updL (s0.2.2 2) x1.toNatClampNeg x2))) C 1 1 (x1.toNatClampNeg) rfl rfl hv9 rfl rfl dX2_put_84 ?_
          refine z_lv [] rfl ?_
          exact B_X2_put_85 C hR hr h R  hf
  · have hf := bb_t hf hc2
    obtain rfl := Option.some.inj hf
    exact z_vret (pc := 9) C hr R dX2_put_9
theorem c_X2_put {l : Launch} {D : va_G} {cs : Nat → ClassId} (h : Nat → Nat) {s0 : bb_O} {x1 : Int32} {x2 : Int64} {z : (bb_O)} (hf : F_X2_put_0 s0 x1 x2 = some z) : bb_M l yX2_put cX2_put 4 none 2 D cs [.ref (h 0), .int x1, .long x2] none (wX2 cs h s0) (wX2 cs h z) := bb_mg (by decide) rfl (Nat.le_of_ble_eq_true rfl) rfl (fun X hl hD hcs C hR hr R => by
  subst hl
  subst hD
  subst hcs
  exact B_X2_put_0 C hR hr h R hf)
/-! X2_tellsOf: writes, level 6 -/
noncomputable def G_X2_tellsOf_14 (k14 : bb_O → bb_O → Int32 → Int32 → Int32 → Option (Int32 × (bb_O × bb_O))) (s0 : bb_O) (s1 : bb_O) (x2 : Int32) (x3 : Int32) (x4 : Int32) : Option (Int32 × (bb_O × bb_O)) := if x3 ≤ x4 then (some ((1 : Int32), (s0, s1))) else ((F_X0_pass_0 s1).bind (fun q2 => bb_g (vp_in (x2 + x4) 24) (if (lg_cmp (s0.2.2 2 (x2 + x4).toNatClampNeg) ((q2.2.1 3).toInt64)) = 0 then (k14 s0 q2.2 x2 x3 (x4 + 1)) else (some ((0 : Int32), (s0, q2.2))))))
noncomputable def F_X2_tellsOf_14  : Nat → bb_O → bb_O → Int32 → Int32 → Int32 → Option (Int32 × (bb_O × bb_O))
  | 0, _, _, _, _, _ => none
  | n + 1, s0, s1, x2, x3, x4 => G_X2_tellsOf_14  (F_X2_tellsOf_14  n) s0 s1 x2 x3 x4
set_option maxHeartbeats 4000000 in
set_option maxRecDepth 100000 in
theorem A_X2_tellsOf_14 {X : bb_X} (C : bb_C X RX2 cX2_tellsOf 5) (hR : bb_r X 6) (hr : X.meth.sig.returnType = (some .boolean)) (h : Nat → Nat) (g : Nat → Nat) {z : (Int32 × (bb_O × bb_O))} (R : bb_R X (some (.int z.1)) (wX2 X.cs h z.2.1 ++ wX0 X.cs g z.2.2)) {k14 : bb_O → bb_O → Int32 → Int32 → Int32 → Option (Int32 × (bb_O × bb_O))} (hk14 : ∀ (s0 : bb_O) (s1 : bb_O) (x2 : Int32) (x3 : Int32) (x4 : Int32), k14 s0 s1 x2 x3 x4 = some z → bb_Z X 5 (wX2 X.cs h s0 ++ wX0 X.cs g s1) 14 [(0, .ref (h 0)), (1, .ref (g 0)), (2, .int x2), (3, .int x3), (4, .int x4)] []) {s0 : bb_O} {s1 : bb_O} {x2 : Int32} {x3 : Int32} {x4 : Int32} (hf : G_X2_tellsOf_14 k14 s0 s1 x2 x3 x4 = some z) : bb_Z X 5 (wX2 X.cs h s0 ++ wX0 X.cs g s1) 14 [(0, .ref (h 0)), (1, .ref (g 0)), (2, .int x2), (3, .int x3), (4, .int x4)] [] := by
  refine z_iload (pc := 14) C 4 dX2_tellsOf_14 rfl ?_
  refine z_iload_n (pc := 16) (i := 3) C 3 dX2_tellsOf_16 rfl rfl ?_
  refine z_icmp_ge (pc := 17) C 51 dX2_tellsOf_17 (by decide) (fun hc1 => ?_) (fun hc1 => ?_)
  · have hf := bb_t hf hc1
    refine z_iconst (pc := 51) C (1 : Int32) dX2_tellsOf_51 (by decide) ?_
    obtain rfl := Option.some.inj hf
    exact z_zret (pc := 52) C hr (bb_nz (Or.inr rfl)) R dX2_tellsOf_52
  · have hf := bb_e hf hc1
    refine z_aload_n (pc := 20) (i := 1) C 1 dX2_tellsOf_20 rfl rfl ?_
    obtain ⟨q2, hq2, hf⟩ := bb_b_some hf
    refine z_callVi (pc := 21) (ci := 0) (q0 := 0) (As := []) (rest := []) (ws' := wX2 X.cs h s0 ++ wX0 X.cs g q2.2) C (hR.le (by decide)) (c_X0_pass g hq2) (cut_X2X0_1 _ _ _ _ _ _) bv_X0_pass bm_X2_30 rfl rfl rfl rfl (Nat.le_of_ble_eq_true rfl) dX2_tellsOf_21 ?_
    refine z_pop (pc := 24) C dX2_tellsOf_24 rfl ?_
    refine z_aload_n (pc := 25) (i := 0) C 0 dX2_tellsOf_25 rfl rfl ?_
    refine z_get (pc := 26) (ci := 2) C (.ref (h 3)) bi_X2 rfl 0 2 (by decide) rfl bf_X2_15 rfl rfl dX2_tellsOf_26 ?_
    refine z_iload_n (pc := 29) (i := 2) C 2 dX2_tellsOf_29 rfl rfl ?_
    refine z_iload (pc := 30) C 4 dX2_tellsOf_30 rfl ?_
    refine z_iadd (pc := 32) C dX2_tellsOf_32 ?_
    obtain ⟨hv3, hf⟩ := bb_g_some hf
    refine z_lald (pc := 33) C 1 1 ((x2 + x4).toNatClampNeg) rfl rfl hv3 rfl dX2_tellsOf_33 ?_
    refine z_aload_n (pc := 34) (i := 1) C 1 dX2_tellsOf_34 rfl rfl ?_
    refine z_get (pc := 35) (ci := 0) C (.int (q2.2.1 3)) bi_X0 rfl 2 3 (by decide) rfl bf_X2_36 rfl rfl dX2_tellsOf_35 ?_
    refine z_i2l (pc := 38) C dX2_tellsOf_38 ?_
    refine z_lcmp (pc := 39) C dX2_tellsOf_39 ?_
    refine z_if_eq (pc := 40) C 45 dX2_tellsOf_40 (by decide) (fun hc4 => ?_) (fun hc4 => ?_)
    · have hf := bb_t hf hc4
      refine z_iinc (pc := 45) (lv' := [(4, .int (x4 + 1)), (0, .ref (h 0)), (1, .ref (g 0)), (2, .int x2), (3, .int x3)]) C (x4 + 1) 4 dX2_tellsOf_45 rfl rfl (by decide) rfl ?_
      refine z_goto (pc := 48) C 14 dX2_tellsOf_48 (by decide) ?_
      refine z_lv [1, 2, 3, 4, 0] rfl ?_
      exact hk14 _ _ _ _ _ hf
    · have hf := bb_e hf hc4
      refine z_iconst (pc := 43) C (0 : Int32) dX2_tellsOf_43 (by decide) ?_
      obtain rfl := Option.some.inj hf
      exact z_zret (pc := 44) C hr (bb_nz (Or.inl rfl)) R dX2_tellsOf_44
theorem B_X2_tellsOf_14 {X : bb_X} (C : bb_C X RX2 cX2_tellsOf 5) (hR : bb_r X 6) (hr : X.meth.sig.returnType = (some .boolean)) (h : Nat → Nat) (g : Nat → Nat) {z : (Int32 × (bb_O × bb_O))} (R : bb_R X (some (.int z.1)) (wX2 X.cs h z.2.1 ++ wX0 X.cs g z.2.2)) : ∀ (n : Nat) (s0 : bb_O) (s1 : bb_O) (x2 : Int32) (x3 : Int32) (x4 : Int32), F_X2_tellsOf_14  n s0 s1 x2 x3 x4 = some z → bb_Z X 5 (wX2 X.cs h s0 ++ wX0 X.cs g s1) 14 [(0, .ref (h 0)), (1, .ref (g 0)), (2, .int x2), (3, .int x3), (4, .int x4)] [] := by
  intro n
  induction n with
  | zero =>
    intro s0 s1 x2 x3 x4 hf
    cases hf
  | succ n ih =>
    intro s0 s1 x2 x3 x4 hf
    exact A_X2_tellsOf_14 C hR hr h g R  ih hf
noncomputable def F_X2_tellsOf_0 (s0 : bb_O) (s1 : bb_O) (x2 : Int32) (x3 : Int32) : Option (Int32 × (bb_O × bb_O)) := (F_X2_reaches_0 s0 x2 x3).bind (fun q1 => if q1 = 0 then (some ((0 : Int32), (s0, s1))) else (F_X2_tellsOf_14 bb_N s0 s1 x2 x3 ((0 : Int32))))
set_option maxHeartbeats 4000000 in
set_option maxRecDepth 100000 in
theorem B_X2_tellsOf_0 {X : bb_X} (C : bb_C X RX2 cX2_tellsOf 5) (hR : bb_r X 6) (hr : X.meth.sig.returnType = (some .boolean)) (h : Nat → Nat) (g : Nat → Nat) {z : (Int32 × (bb_O × bb_O))} (R : bb_R X (some (.int z.1)) (wX2 X.cs h z.2.1 ++ wX0 X.cs g z.2.2)) {s0 : bb_O} {s1 : bb_O} {x2 : Int32} {x3 : Int32} (hf : F_X2_tellsOf_0 s0 s1 x2 x3 = some z) : bb_Z X 5 (wX2 X.cs h s0 ++ wX0 X.cs g s1) 0 [(0, .ref (h 0)), (1, .ref (g 0)), (2, .int x2), (3, .int x3)] [] := by
  refine z_aload_n (pc := 0) (i := 0) C 0 dX2_tellsOf_0 rfl rfl ?_
  refine z_iload_n (pc := 1) (i := 2) C 2 dX2_tellsOf_1 rfl rfl ?_
  refine z_iload_n (pc := 2) (i := 3) C 3 dX2_tellsOf_2 rfl rfl ?_
  obtain ⟨q1, hq1, hf⟩ := bb_b_some hf
  refine z_callVi (pc := 3) (ci := 2) (q0 := 0) (As := [.int x2, .int x3]) (rest := []) C (hR.le (by decide)) (c_X2_reaches h hq1) (cut_X2X0_0 _ _ _ _ _ _) bv_X2_reaches bm_X2_26 rfl rfl rfl rfl (Nat.le_of_ble_eq_true rfl) dX2_tellsOf_3 ?_
  refine z_if_ne (pc := 6) C 11 dX2_tellsOf_6 (by decide) (fun hc2 => ?_) (fun hc2 => ?_)
  · have hf := bb_e hf hc2
    refine z_iconst (pc := 11) C (0 : Int32) dX2_tellsOf_11 (by decide) ?_
    refine z_istore (pc := 12) (lv' := [(4, .int ((0 : Int32))), (0, .ref (h 0)), (1, .ref (g 0)), (2, .int x2), (3, .int x3)]) C dX2_tellsOf_12 (by decide) rfl ?_
    refine z_lv [1, 2, 3, 4, 0] rfl ?_
    exact B_X2_tellsOf_14 C hR hr h g R  bb_N _ _ _ _ _ hf
  · have hf := bb_t hf hc2
    refine z_iconst (pc := 9) C (0 : Int32) dX2_tellsOf_9 (by decide) ?_
    obtain rfl := Option.some.inj hf
    exact z_zret (pc := 10) C hr (bb_nz (Or.inl rfl)) R dX2_tellsOf_10
theorem c_X2_tellsOf {l : Launch} {D : va_G} {cs : Nat → ClassId} (h : Nat → Nat) (g : Nat → Nat) {s0 : bb_O} {s1 : bb_O} {x2 : Int32} {x3 : Int32} {z : (Int32 × (bb_O × bb_O))} (hf : F_X2_tellsOf_0 s0 s1 x2 x3 = some z) : bb_M l yX2_tellsOf cX2_tellsOf 5 (some .boolean) 6 D cs [.ref (h 0), .ref (g 0), .int x2, .int x3] (some (.int z.1)) (wX2 cs h s0 ++ wX0 cs g s1) (wX2 cs h z.2.1 ++ wX0 cs g z.2.2) := bb_mg (by decide) rfl (Nat.le_of_ble_eq_true rfl) rfl (fun X hl hD hcs C hR hr R => by
  subst hl
  subst hD
  subst hcs
  exact B_X2_tellsOf_0 C hR hr h g R hf)
/-! X3_add: writes, level 1 -/
noncomputable def F_X3_add_37 (s0 : bb_O) : Option (Int32 × bb_O) := some (s0.1 1, s0)
set_option maxHeartbeats 4000000 in
set_option maxRecDepth 100000 in
theorem B_X3_add_37 {X : bb_X} (C : bb_C X RX3 cX3_add 2) (hR : bb_r X 1) (hr : X.meth.sig.returnType = (some .int)) (h : Nat → Nat) {z : (Int32 × bb_O)} (R : bb_R X (some (.int z.1)) (wX3 X.cs h z.2)) {s0 : bb_O} (hf : F_X3_add_37 s0 = some z) : bb_Z X 2 (wX3 X.cs h s0) 37 [(0, .ref (h 0))] [] := by
  refine z_aload_n (pc := 37) (i := 0) C 0 dX3_add_37 rfl rfl ?_
  refine z_get (pc := 38) (ci := 3) C (.int (s0.1 1)) bi_X3 rfl 0 1 (by decide) rfl bf_X3_15 rfl rfl dX3_add_38 ?_
  obtain rfl := Option.some.inj hf
  exact z_iret (pc := 41) C hr R dX3_add_41
noncomputable def F_X3_add_27 (s0 : bb_O) : Option (Int32 × bb_O) := F_X3_add_37 (bb_sf s0 1 ((s0.1 1) + ((1 : Int32))))
set_option maxHeartbeats 4000000 in
set_option maxRecDepth 100000 in
theorem B_X3_add_27 {X : bb_X} (C : bb_C X RX3 cX3_add 2) (hR : bb_r X 1) (hr : X.meth.sig.returnType = (some .int)) (h : Nat → Nat) {z : (Int32 × bb_O)} (R : bb_R X (some (.int z.1)) (wX3 X.cs h z.2)) {s0 : bb_O} (hf : F_X3_add_27 s0 = some z) : bb_Z X 2 (wX3 X.cs h s0) 27 [(0, .ref (h 0))] [] := by
  refine z_aload_n (pc := 27) (i := 0) C 0 dX3_add_27 rfl rfl ?_
  refine z_dup (pc := 28) C dX3_add_28 rfl ?_
  refine z_get (pc := 29) (ci := 3) C (.int (s0.1 1)) bi_X3 rfl 0 1 (by decide) rfl bf_X3_15 rfl rfl dX3_add_29 ?_
  refine z_iconst (pc := 32) C (1 : Int32) dX3_add_32 (by decide) ?_
  refine z_iadd (pc := 33) C dX3_add_33 ?_
  refine z_put (pc := 34) (ci := 3) (ty := .int) (ws' := wX3 X.cs h (bb_sf s0 1 ((s0.1 1) + ((1 : Int32))))) C bi_X3 tyX3_ok nmX3 rfl 0 1 (by decide) rfl bf_X3_15 rfl rfl rfl rfl rfl (Nat.le_of_ble_eq_true rfl) rfl dX3_add_34 ?_
  exact B_X3_add_37 C hR hr h R  hf
noncomputable def F_X3_add_0 (s0 : bb_O) (x1 : Int32) : Option (Int32 × bb_O) := if (s0.1 1) < 0 then (F_X3_add_37 s0) else (if ((90 : Int32)) ≤ (s0.1 1) then (F_X3_add_37 s0) else (bb_g (vp_in (s0.1 1) 90) (F_X3_add_27 (bb_sA s0 0 (upd (s0.2.1 0) (s0.1 1).toNatClampNeg (vp_nar .char ((x1.toUInt32 % 65536).toInt32)))))))
set_option maxHeartbeats 4000000 in
set_option maxRecDepth 100000 in
theorem B_X3_add_0 {X : bb_X} (C : bb_C X RX3 cX3_add 2) (hR : bb_r X 1) (hr : X.meth.sig.returnType = (some .int)) (h : Nat → Nat) {z : (Int32 × bb_O)} (R : bb_R X (some (.int z.1)) (wX3 X.cs h z.2)) {s0 : bb_O} {x1 : Int32} (hf : F_X3_add_0 s0 x1 = some z) : bb_Z X 2 (wX3 X.cs h s0) 0 [(0, .ref (h 0)), (1, .int x1)] [] := by
  refine z_aload_n (pc := 0) (i := 0) C 0 dX3_add_0 rfl rfl ?_
  refine z_get (pc := 1) (ci := 3) C (.int (s0.1 1)) bi_X3 rfl 0 1 (by decide) rfl bf_X3_15 rfl rfl dX3_add_1 ?_
  refine z_if_lt (pc := 4) C 37 dX3_add_4 (by decide) (fun hc1 => ?_) (fun hc1 => ?_)
  · have hf := bb_t hf hc1
    refine z_lv [0] rfl ?_
    exact B_X3_add_37 C hR hr h R  hf
  · have hf := bb_e hf hc1
    refine z_aload_n (pc := 7) (i := 0) C 0 dX3_add_7 rfl rfl ?_
    refine z_get (pc := 8) (ci := 3) C (.int (s0.1 1)) bi_X3 rfl 0 1 (by decide) rfl bf_X3_15 rfl rfl dX3_add_8 ?_
    refine z_bipush (pc := 11) C (90 : Int32) dX3_add_11 (by decide) ?_
    refine z_icmp_ge (pc := 13) C 37 dX3_add_13 (by decide) (fun hc2 => ?_) (fun hc2 => ?_)
    · have hf := bb_t hf hc2
      refine z_lv [0] rfl ?_
      exact B_X3_add_37 C hR hr h R  hf
    · have hf := bb_e hf hc2
      refine z_aload_n (pc := 16) (i := 0) C 0 dX3_add_16 rfl rfl ?_
      refine z_get (pc := 17) (ci := 3) C (.ref (h 1)) bi_X3 rfl 0 0 (by decide) rfl bf_X3_9 rfl rfl dX3_add_17 ?_
      refine z_aload_n (pc := 20) (i := 0) C 0 dX3_add_20 rfl rfl ?_
      refine z_get (pc := 21) (ci := 3) C (.int (s0.1 1)) bi_X3 rfl 0 1 (by decide) rfl bf_X3_15 rfl rfl dX3_add_21 ?_
      refine z_iload_n (pc := 24) (i := 1) C 1 dX3_add_24 rfl rfl ?_
      refine z_i2c (pc := 25) C dX3_add_25 ?_
      obtain ⟨hv3, hf⟩ := bb_g_some hf
      refine z_cast (pc := 26) (ws' := wX3 X.cs h (bb_sA s0 0 (upd (s0.2.1 0) (s0.1 1).toNatClampNeg (vp_nar .char ((x1.toUInt32 % 65536).toInt32))))) C 1 2 ((s0.1 1).toNatClampNeg) rfl rfl hv3 rfl rfl dX3_add_26 ?_
      refine z_lv [0] rfl ?_
      exact B_X3_add_27 C hR hr h R  hf
theorem c_X3_add {l : Launch} {D : va_G} {cs : Nat → ClassId} (h : Nat → Nat) {s0 : bb_O} {x1 : Int32} {z : (Int32 × bb_O)} (hf : F_X3_add_0 s0 x1 = some z) : bb_M l yX3_add cX3_add 2 (some .int) 1 D cs [.ref (h 0), .int x1] (some (.int z.1)) (wX3 cs h s0) (wX3 cs h z.2) := bb_mg (by decide) rfl (Nat.le_of_ble_eq_true rfl) rfl (fun X hl hD hcs C hR hr R => by
  subst hl
  subst hD
  subst hcs
  exact B_X3_add_0 C hR hr h R hf)
/-! X3_peek: writes, level 1 -/
noncomputable def F_X3_peek_80 (s0 : bb_O) (y0 : Int32) : Option (Int32 × bb_O) := bb_g (bb_c y0) (some (y0, s0))
set_option maxHeartbeats 4000000 in
set_option maxRecDepth 100000 in
theorem B_X3_peek_80 {X : bb_X} (C : bb_C X RX3 cX3_peek 1) (hR : bb_r X 1) (hr : X.meth.sig.returnType = (some .char)) (h : Nat → Nat) {z : (Int32 × bb_O)} (R : bb_R X (some (.int z.1)) (wX3 X.cs h z.2)) {s0 : bb_O} {y0 : Int32} (hf : F_X3_peek_80 s0 y0 = some z) : bb_Z X 1 (wX3 X.cs h s0) 80 [] [.int y0] := by
  obtain ⟨hz1, hf⟩ := bb_g_some hf
  obtain rfl := Option.some.inj hf
  exact z_zret (pc := 80) C hr (bb_nc hz1) R dX3_peek_80
noncomputable def F_X3_peek_79 (s0 : bb_O) : Option (Int32 × bb_O) := F_X3_peek_80 s0 ((0 : Int32))
set_option maxHeartbeats 4000000 in
set_option maxRecDepth 100000 in
theorem B_X3_peek_79 {X : bb_X} (C : bb_C X RX3 cX3_peek 1) (hR : bb_r X 1) (hr : X.meth.sig.returnType = (some .char)) (h : Nat → Nat) {z : (Int32 × bb_O)} (R : bb_R X (some (.int z.1)) (wX3 X.cs h z.2)) {s0 : bb_O} (hf : F_X3_peek_79 s0 = some z) : bb_Z X 1 (wX3 X.cs h s0) 79 [] [] := by
  refine z_iconst (pc := 79) C (0 : Int32) dX3_peek_79 (by decide) ?_
  exact B_X3_peek_80 C hR hr h R  hf
noncomputable def F_X3_peek_47 (s0 : bb_O) : Option (Int32 × bb_O) := if (s0.1 1) ≤ (s0.1 2) then (F_X3_peek_79 s0) else (if ((90 : Int32)) ≤ (s0.1 2) then (F_X3_peek_79 s0) else (bb_g (vp_in (s0.1 2) 90) (F_X3_peek_80 s0 (s0.2.1 0 (s0.1 2).toNatClampNeg))))
set_option maxHeartbeats 4000000 in
set_option maxRecDepth 100000 in
theorem B_X3_peek_47 {X : bb_X} (C : bb_C X RX3 cX3_peek 1) (hR : bb_r X 1) (hr : X.meth.sig.returnType = (some .char)) (h : Nat → Nat) {z : (Int32 × bb_O)} (R : bb_R X (some (.int z.1)) (wX3 X.cs h z.2)) {s0 : bb_O} (hf : F_X3_peek_47 s0 = some z) : bb_Z X 1 (wX3 X.cs h s0) 47 [(0, .ref (h 0))] [] := by
  refine z_aload_n (pc := 47) (i := 0) C 0 dX3_peek_47 rfl rfl ?_
  refine z_get (pc := 48) (ci := 3) C (.int (s0.1 2)) bi_X3 rfl 0 2 (by decide) rfl bf_X3_19 rfl rfl dX3_peek_48 ?_
  refine z_aload_n (pc := 51) (i := 0) C 0 dX3_peek_51 rfl rfl ?_
  refine z_get (pc := 52) (ci := 3) C (.int (s0.1 1)) bi_X3 rfl 0 1 (by decide) rfl bf_X3_15 rfl rfl dX3_peek_52 ?_
  refine z_icmp_ge (pc := 55) C 79 dX3_peek_55 (by decide) (fun hc1 => ?_) (fun hc1 => ?_)
  · have hf := bb_t hf hc1
    refine z_lv [] rfl ?_
    exact B_X3_peek_79 C hR hr h R  hf
  · have hf := bb_e hf hc1
    refine z_aload_n (pc := 58) (i := 0) C 0 dX3_peek_58 rfl rfl ?_
    refine z_get (pc := 59) (ci := 3) C (.int (s0.1 2)) bi_X3 rfl 0 2 (by decide) rfl bf_X3_19 rfl rfl dX3_peek_59 ?_
    refine z_bipush (pc := 62) C (90 : Int32) dX3_peek_62 (by decide) ?_
    refine z_icmp_ge (pc := 64) C 79 dX3_peek_64 (by decide) (fun hc2 => ?_) (fun hc2 => ?_)
    · have hf := bb_t hf hc2
      refine z_lv [] rfl ?_
      exact B_X3_peek_79 C hR hr h R  hf
    · have hf := bb_e hf hc2
      refine z_aload_n (pc := 67) (i := 0) C 0 dX3_peek_67 rfl rfl ?_
      refine z_get (pc := 68) (ci := 3) C (.ref (h 1)) bi_X3 rfl 0 0 (by decide) rfl bf_X3_9 rfl rfl dX3_peek_68 ?_
      refine z_aload_n (pc := 71) (i := 0) C 0 dX3_peek_71 rfl rfl ?_
      refine z_get (pc := 72) (ci := 3) C (.int (s0.1 2)) bi_X3 rfl 0 2 (by decide) rfl bf_X3_19 rfl rfl dX3_peek_72 ?_
      obtain ⟨hv3, hf⟩ := bb_g_some hf
      refine z_cald (pc := 75) C 1 2 ((s0.1 2).toNatClampNeg) rfl rfl hv3 rfl dX3_peek_75 ?_
      refine z_goto (pc := 76) C 80 dX3_peek_76 (by decide) ?_
      refine z_lv [] rfl ?_
      exact B_X3_peek_80 C hR hr h R  hf
noncomputable def G_X3_peek_0 (k0 : bb_O → Option (Int32 × bb_O)) (s0 : bb_O) : Option (Int32 × bb_O) := if (s0.1 1) ≤ (s0.1 2) then (F_X3_peek_47 s0) else (if ((90 : Int32)) ≤ (s0.1 2) then (F_X3_peek_47 s0) else (bb_g (vp_in (s0.1 2) 90) (if (s0.2.1 0 (s0.1 2).toNatClampNeg) = ((32 : Int32)) then (k0 (bb_sf s0 2 ((s0.1 2) + ((1 : Int32))))) else (F_X3_peek_47 s0))))
noncomputable def F_X3_peek_0  : Nat → bb_O → Option (Int32 × bb_O)
  | 0, _ => none
  | n + 1, s0 => G_X3_peek_0  (F_X3_peek_0  n) s0
set_option maxHeartbeats 4000000 in
set_option maxRecDepth 100000 in
theorem A_X3_peek_0 {X : bb_X} (C : bb_C X RX3 cX3_peek 1) (hR : bb_r X 1) (hr : X.meth.sig.returnType = (some .char)) (h : Nat → Nat) {z : (Int32 × bb_O)} (R : bb_R X (some (.int z.1)) (wX3 X.cs h z.2)) {k0 : bb_O → Option (Int32 × bb_O)} (hk0 : ∀ (s0 : bb_O), k0 s0 = some z → bb_Z X 1 (wX3 X.cs h s0) 0 [(0, .ref (h 0))] []) {s0 : bb_O} (hf : G_X3_peek_0 k0 s0 = some z) : bb_Z X 1 (wX3 X.cs h s0) 0 [(0, .ref (h 0))] [] := by
  refine z_aload_n (pc := 0) (i := 0) C 0 dX3_peek_0 rfl rfl ?_
  refine z_get (pc := 1) (ci := 3) C (.int (s0.1 2)) bi_X3 rfl 0 2 (by decide) rfl bf_X3_19 rfl rfl dX3_peek_1 ?_
  refine z_aload_n (pc := 4) (i := 0) C 0 dX3_peek_4 rfl rfl ?_
  refine z_get (pc := 5) (ci := 3) C (.int (s0.1 1)) bi_X3 rfl 0 1 (by decide) rfl bf_X3_15 rfl rfl dX3_peek_5 ?_
  refine z_icmp_ge (pc := 8) C 47 dX3_peek_8 (by decide) (fun hc1 => ?_) (fun hc1 => ?_)
  · have hf := bb_t hf hc1
    exact B_X3_peek_47 C hR hr h R  hf
  · have hf := bb_e hf hc1
    refine z_aload_n (pc := 11) (i := 0) C 0 dX3_peek_11 rfl rfl ?_
    refine z_get (pc := 12) (ci := 3) C (.int (s0.1 2)) bi_X3 rfl 0 2 (by decide) rfl bf_X3_19 rfl rfl dX3_peek_12 ?_
    refine z_bipush (pc := 15) C (90 : Int32) dX3_peek_15 (by decide) ?_
    refine z_icmp_ge (pc := 17) C 47 dX3_peek_17 (by decide) (fun hc2 => ?_) (fun hc2 => ?_)
    · have hf := bb_t hf hc2
      exact B_X3_peek_47 C hR hr h R  hf
    · have hf := bb_e hf hc2
      refine z_aload_n (pc := 20) (i := 0) C 0 dX3_peek_20 rfl rfl ?_
      refine z_get (pc := 21) (ci := 3) C (.ref (h 1)) bi_X3 rfl 0 0 (by decide) rfl bf_X3_9 rfl rfl dX3_peek_21 ?_
      refine z_aload_n (pc := 24) (i := 0) C 0 dX3_peek_24 rfl rfl ?_
      refine z_get (pc := 25) (ci := 3) C (.int (s0.1 2)) bi_X3 rfl 0 2 (by decide) rfl bf_X3_19 rfl rfl dX3_peek_25 ?_
      obtain ⟨hv3, hf⟩ := bb_g_some hf
      refine z_cald (pc := 28) C 1 2 ((s0.1 2).toNatClampNeg) rfl rfl hv3 rfl dX3_peek_28 ?_
      refine z_bipush (pc := 29) C (32 : Int32) dX3_peek_29 (by decide) ?_
      refine z_icmp_ne (pc := 31) C 47 dX3_peek_31 (by decide) (fun hc4 => ?_) (fun hc4 => ?_)
      · have hf := bb_e hf hc4
        exact B_X3_peek_47 C hR hr h R  hf
      · have hf := bb_t hf hc4
        refine z_aload_n (pc := 34) (i := 0) C 0 dX3_peek_34 rfl rfl ?_
        refine z_dup (pc := 35) C dX3_peek_35 rfl ?_
        refine z_get (pc := 36) (ci := 3) C (.int (s0.1 2)) bi_X3 rfl 0 2 (by decide) rfl bf_X3_19 rfl rfl dX3_peek_36 ?_
        refine z_iconst (pc := 39) C (1 : Int32) dX3_peek_39 (by decide) ?_
        refine z_iadd (pc := 40) C dX3_peek_40 ?_
        refine z_put (pc := 41) (ci := 3) (ty := .int) (ws' := wX3 X.cs h (bb_sf s0 2 ((s0.1 2) + ((1 : Int32))))) C bi_X3 tyX3_ok nmX3 rfl 0 2 (by decide) rfl bf_X3_19 rfl rfl rfl rfl rfl (Nat.le_of_ble_eq_true rfl) rfl dX3_peek_41 ?_
        refine z_goto (pc := 44) C 0 dX3_peek_44 (by decide) ?_
        exact hk0 _ hf
theorem B_X3_peek_0 {X : bb_X} (C : bb_C X RX3 cX3_peek 1) (hR : bb_r X 1) (hr : X.meth.sig.returnType = (some .char)) (h : Nat → Nat) {z : (Int32 × bb_O)} (R : bb_R X (some (.int z.1)) (wX3 X.cs h z.2)) : ∀ (n : Nat) (s0 : bb_O), F_X3_peek_0  n s0 = some z → bb_Z X 1 (wX3 X.cs h s0) 0 [(0, .ref (h 0))] [] := by
  intro n
  induction n with
  | zero =>
    intro s0 hf
    cases hf
  | succ n ih =>
    intro s0 hf
    exact A_X3_peek_0 C hR hr h R  ih hf
noncomputable def F_X3_peek_e (s0 : bb_O) : Option (Int32 × bb_O) := F_X3_peek_0  bb_N s0 
theorem c_X3_peek {l : Launch} {D : va_G} {cs : Nat → ClassId} (h : Nat → Nat) {s0 : bb_O} {z : (Int32 × bb_O)} (hf : F_X3_peek_e s0 = some z) : bb_M l yX3_peek cX3_peek 1 (some .char) 1 D cs [.ref (h 0)] (some (.int z.1)) (wX3 cs h s0) (wX3 cs h z.2) := bb_mg (by decide) rfl (Nat.le_of_ble_eq_true rfl) rfl (fun X hl hD hcs C hR hr R => by
  subst hl
  subst hD
  subst hcs
  exact B_X3_peek_0 C hR hr h R bb_N _ hf)
/-! X3_readDigit: writes, level 2 -/
noncomputable def F_X3_readDigit_18 (s0 : bb_O) : Option (Int32 × bb_O) := some ((-4 : Int32), s0)
set_option maxHeartbeats 4000000 in
set_option maxRecDepth 100000 in
theorem B_X3_readDigit_18 {X : bb_X} (C : bb_C X RX3 cX3_readDigit 4) (hR : bb_r X 2) (hr : X.meth.sig.returnType = (some .int)) (h : Nat → Nat) {z : (Int32 × bb_O)} (R : bb_R X (some (.int z.1)) (wX3 X.cs h z.2)) {s0 : bb_O} (hf : F_X3_readDigit_18 s0 = some z) : bb_Z X 4 (wX3 X.cs h s0) 18 [] [] := by
  refine z_bipush (pc := 18) C (-4 : Int32) dX3_readDigit_18 (by decide) ?_
  obtain rfl := Option.some.inj hf
  exact z_iret (pc := 20) C hr R dX3_readDigit_20
noncomputable def F_X3_readDigit_0 (s0 : bb_O) (x1 : Int32) (x2 : Int32) : Option (Int32 × bb_O) := (F_X3_peek_e s0).bind (fun q1 => if (q1.1 - ((48 : Int32))) < x1 then (F_X3_readDigit_18 q1.2) else (if (q1.1 - ((48 : Int32))) ≤ x2 then (some (q1.1 - ((48 : Int32)), bb_sf q1.2 2 ((q1.2.1 2) + ((1 : Int32))))) else (F_X3_readDigit_18 q1.2)))
set_option maxHeartbeats 4000000 in
set_option maxRecDepth 100000 in
theorem B_X3_readDigit_0 {X : bb_X} (C : bb_C X RX3 cX3_readDigit 4) (hR : bb_r X 2) (hr : X.meth.sig.returnType = (some .int)) (h : Nat → Nat) {z : (Int32 × bb_O)} (R : bb_R X (some (.int z.1)) (wX3 X.cs h z.2)) {s0 : bb_O} {x1 : Int32} {x2 : Int32} (hf : F_X3_readDigit_0 s0 x1 x2 = some z) : bb_Z X 4 (wX3 X.cs h s0) 0 [(0, .ref (h 0)), (1, .int x1), (2, .int x2)] [] := by
  refine z_aload_n (pc := 0) (i := 0) C 0 dX3_readDigit_0 rfl rfl ?_
  obtain ⟨q1, hq1, hf⟩ := bb_b_some hf
  refine z_callVi (pc := 1) (ci := 3) (q0 := 0) (As := []) (rest := []) (ws' := wX3 X.cs h q1.2) C (hR.le (by decide)) (c_X3_peek h hq1) (bb_cut_self _ _) bv_X3_peek bm_X3_33 rfl rfl rfl rfl (Nat.le_of_ble_eq_true rfl) dX3_readDigit_1 ?_
  refine z_bipush (pc := 4) C (48 : Int32) dX3_readDigit_4 (by decide) ?_
  refine z_isub (pc := 6) C dX3_readDigit_6 ?_
  refine z_istore_n (pc := 7) (i := 3) (lv' := [(3, .int (q1.1 - ((48 : Int32)))), (0, .ref (h 0)), (1, .int x1), (2, .int x2)]) C dX3_readDigit_7 rfl (by decide) rfl ?_
  refine z_iload_n (pc := 8) (i := 3) C 0 dX3_readDigit_8 rfl rfl ?_
  refine z_iload_n (pc := 9) (i := 1) C 2 dX3_readDigit_9 rfl rfl ?_
  refine z_icmp_lt (pc := 10) C 18 dX3_readDigit_10 (by decide) (fun hc2 => ?_) (fun hc2 => ?_)
  · have hf := bb_t hf hc2
    refine z_lv [] rfl ?_
    exact B_X3_readDigit_18 C hR hr h R  hf
  · have hf := bb_e hf hc2
    refine z_iload_n (pc := 13) (i := 3) C 0 dX3_readDigit_13 rfl rfl ?_
    refine z_iload_n (pc := 14) (i := 2) C 3 dX3_readDigit_14 rfl rfl ?_
    refine z_icmp_le (pc := 15) C 21 dX3_readDigit_15 (by decide) (fun hc3 => ?_) (fun hc3 => ?_)
    · have hf := bb_t hf hc3
      refine z_aload_n (pc := 21) (i := 0) C 1 dX3_readDigit_21 rfl rfl ?_
      refine z_dup (pc := 22) C dX3_readDigit_22 rfl ?_
      refine z_get (pc := 23) (ci := 3) C (.int (q1.2.1 2)) bi_X3 rfl 0 2 (by decide) rfl bf_X3_19 rfl rfl dX3_readDigit_23 ?_
      refine z_iconst (pc := 26) C (1 : Int32) dX3_readDigit_26 (by decide) ?_
      refine z_iadd (pc := 27) C dX3_readDigit_27 ?_
      refine z_put (pc := 28) (ci := 3) (ty := .int) (ws' := wX3 X.cs h (bb_sf q1.2 2 ((q1.2.1 2) + ((1 : Int32))))) C bi_X3 tyX3_ok nmX3 rfl 0 2 (by decide) rfl bf_X3_19 rfl rfl rfl rfl rfl (Nat.le_of_ble_eq_true rfl) rfl dX3_readDigit_28 ?_
      refine z_iload_n (pc := 31) (i := 3) C 0 dX3_readDigit_31 rfl rfl ?_
      obtain rfl := Option.some.inj hf
      exact z_iret (pc := 32) C hr R dX3_readDigit_32
    · have hf := bb_e hf hc3
      refine z_lv [] rfl ?_
      exact B_X3_readDigit_18 C hR hr h R  hf
theorem c_X3_readDigit {l : Launch} {D : va_G} {cs : Nat → ClassId} (h : Nat → Nat) {s0 : bb_O} {x1 : Int32} {x2 : Int32} {z : (Int32 × bb_O)} (hf : F_X3_readDigit_0 s0 x1 x2 = some z) : bb_M l yX3_readDigit cX3_readDigit 4 (some .int) 2 D cs [.ref (h 0), .int x1, .int x2] (some (.int z.1)) (wX3 cs h s0) (wX3 cs h z.2) := bb_mg (by decide) rfl (Nat.le_of_ble_eq_true rfl) rfl (fun X hl hD hcs C hR hr R => by
  subst hl
  subst hD
  subst hcs
  exact B_X3_readDigit_0 C hR hr h R hf)
/-! X3_readSign: writes, level 2 -/
noncomputable def F_X3_readSign_0 (s0 : bb_O) (x1 : Int32) : Option (Int32 × bb_O) := (F_X3_peek_e s0).bind (fun q1 => if q1.1 = x1 then (some ((1 : Int32), bb_sf q1.2 2 ((q1.2.1 2) + ((1 : Int32))))) else (some ((0 : Int32), q1.2)))
set_option maxHeartbeats 4000000 in
set_option maxRecDepth 100000 in
theorem B_X3_readSign_0 {X : bb_X} (C : bb_C X RX3 cX3_readSign 2) (hR : bb_r X 2) (hr : X.meth.sig.returnType = (some .boolean)) (h : Nat → Nat) {z : (Int32 × bb_O)} (R : bb_R X (some (.int z.1)) (wX3 X.cs h z.2)) {s0 : bb_O} {x1 : Int32} (hf : F_X3_readSign_0 s0 x1 = some z) : bb_Z X 2 (wX3 X.cs h s0) 0 [(0, .ref (h 0)), (1, .int x1)] [] := by
  refine z_aload_n (pc := 0) (i := 0) C 0 dX3_readSign_0 rfl rfl ?_
  obtain ⟨q1, hq1, hf⟩ := bb_b_some hf
  refine z_callVi (pc := 1) (ci := 3) (q0 := 0) (As := []) (rest := []) (ws' := wX3 X.cs h q1.2) C (hR.le (by decide)) (c_X3_peek h hq1) (bb_cut_self _ _) bv_X3_peek bm_X3_33 rfl rfl rfl rfl (Nat.le_of_ble_eq_true rfl) dX3_readSign_1 ?_
  refine z_iload_n (pc := 4) (i := 1) C 1 dX3_readSign_4 rfl rfl ?_
  refine z_icmp_eq (pc := 5) C 10 dX3_readSign_5 (by decide) (fun hc2 => ?_) (fun hc2 => ?_)
  · have hf := bb_t hf hc2
    refine z_aload_n (pc := 10) (i := 0) C 0 dX3_readSign_10 rfl rfl ?_
    refine z_dup (pc := 11) C dX3_readSign_11 rfl ?_
    refine z_get (pc := 12) (ci := 3) C (.int (q1.2.1 2)) bi_X3 rfl 0 2 (by decide) rfl bf_X3_19 rfl rfl dX3_readSign_12 ?_
    refine z_iconst (pc := 15) C (1 : Int32) dX3_readSign_15 (by decide) ?_
    refine z_iadd (pc := 16) C dX3_readSign_16 ?_
    refine z_put (pc := 17) (ci := 3) (ty := .int) (ws' := wX3 X.cs h (bb_sf q1.2 2 ((q1.2.1 2) + ((1 : Int32))))) C bi_X3 tyX3_ok nmX3 rfl 0 2 (by decide) rfl bf_X3_19 rfl rfl rfl rfl rfl (Nat.le_of_ble_eq_true rfl) rfl dX3_readSign_17 ?_
    refine z_iconst (pc := 20) C (1 : Int32) dX3_readSign_20 (by decide) ?_
    obtain rfl := Option.some.inj hf
    exact z_zret (pc := 21) C hr (bb_nz (Or.inr rfl)) R dX3_readSign_21
  · have hf := bb_e hf hc2
    refine z_iconst (pc := 8) C (0 : Int32) dX3_readSign_8 (by decide) ?_
    obtain rfl := Option.some.inj hf
    exact z_zret (pc := 9) C hr (bb_nz (Or.inl rfl)) R dX3_readSign_9
theorem c_X3_readSign {l : Launch} {D : va_G} {cs : Nat → ClassId} (h : Nat → Nat) {s0 : bb_O} {x1 : Int32} {z : (Int32 × bb_O)} (hf : F_X3_readSign_0 s0 x1 = some z) : bb_M l yX3_readSign cX3_readSign 2 (some .boolean) 2 D cs [.ref (h 0), .int x1] (some (.int z.1)) (wX3 cs h s0) (wX3 cs h z.2) := bb_mg (by decide) rfl (Nat.le_of_ble_eq_true rfl) rfl (fun X hl hD hcs C hR hr R => by
  subst hl
  subst hD
  subst hcs
  exact B_X3_readSign_0 C hR hr h R hf)
/-! X3_readCell: writes, level 3 -/
noncomputable def F_X3_readCell_52 (s0 : bb_O) (s1 : bb_O) (y0 : Int32) : Option (Int32 × (bb_O × bb_O)) := some (y0, (s0, s1))
set_option maxHeartbeats 4000000 in
set_option maxRecDepth 100000 in
theorem B_X3_readCell_52 {X : bb_X} (C : bb_C X RX3 cX3_readCell 4) (hR : bb_r X 3) (hr : X.meth.sig.returnType = (some .int)) (h : Nat → Nat) (g : Nat → Nat) {z : (Int32 × (bb_O × bb_O))} (R : bb_R X (some (.int z.1)) (wX3 X.cs h z.2.1 ++ wX0 X.cs g z.2.2)) {s0 : bb_O} {s1 : bb_O} {y0 : Int32} (hf : F_X3_readCell_52 s0 s1 y0 = some z) : bb_Z X 4 (wX3 X.cs h s0 ++ wX0 X.cs g s1) 52 [] [.int y0] := by
  obtain rfl := Option.some.inj hf
  exact z_iret (pc := 52) C hr R dX3_readCell_52
noncomputable def F_X3_readCell_0 (s0 : bb_O) (s1 : bb_O) : Option (Int32 × (bb_O × bb_O)) := (F_X3_readDigit_0 s0 ((0 : Int32)) ((s1.1 0) - ((1 : Int32)))).bind (fun q1 => if q1.1 = ((-4 : Int32)) then (some ((-4 : Int32), (q1.2, s1))) else ((F_X3_readDigit_0 q1.2 ((0 : Int32)) ((s1.1 1) - ((1 : Int32)))).bind (fun q3 => if q3.1 = ((-4 : Int32)) then (F_X3_readCell_52 q3.2 s1 ((-4 : Int32))) else (F_X3_readCell_52 q3.2 s1 ((q1.1 * (s1.1 1)) + q3.1)))))
set_option maxHeartbeats 4000000 in
set_option maxRecDepth 100000 in
theorem B_X3_readCell_0 {X : bb_X} (C : bb_C X RX3 cX3_readCell 4) (hR : bb_r X 3) (hr : X.meth.sig.returnType = (some .int)) (h : Nat → Nat) (g : Nat → Nat) {z : (Int32 × (bb_O × bb_O))} (R : bb_R X (some (.int z.1)) (wX3 X.cs h z.2.1 ++ wX0 X.cs g z.2.2)) {s0 : bb_O} {s1 : bb_O} (hf : F_X3_readCell_0 s0 s1 = some z) : bb_Z X 4 (wX3 X.cs h s0 ++ wX0 X.cs g s1) 0 [(0, .ref (h 0)), (1, .ref (g 0))] [] := by
  refine z_aload_n (pc := 0) (i := 0) C 0 dX3_readCell_0 rfl rfl ?_
  refine z_iconst (pc := 1) C (0 : Int32) dX3_readCell_1 (by decide) ?_
  refine z_aload_n (pc := 2) (i := 1) C 1 dX3_readCell_2 rfl rfl ?_
  refine z_get (pc := 3) (ci := 0) C (.int (s1.1 0)) bi_X0 rfl 2 0 (by decide) rfl bf_X3_75 rfl rfl dX3_readCell_3 ?_
  refine z_iconst (pc := 6) C (1 : Int32) dX3_readCell_6 (by decide) ?_
  refine z_isub (pc := 7) C dX3_readCell_7 ?_
  obtain ⟨q1, hq1, hf⟩ := bb_b_some hf
  refine z_callVi (pc := 8) (ci := 3) (q0 := 0) (As := [.int ((0 : Int32)), .int ((s1.1 0) - ((1 : Int32)))]) (rest := []) (ws' := wX3 X.cs h q1.2 ++ wX0 X.cs g s1) C (hR.le (by decide)) (c_X3_readDigit h hq1) (cut_X3X0_0 _ _ _ _ _ _) bv_X3_readDigit bm_X3_37 rfl rfl rfl rfl (Nat.le_of_ble_eq_true rfl) dX3_readCell_8 ?_
  refine z_istore_n (pc := 11) (i := 2) (lv' := [(2, .int q1.1), (0, .ref (h 0)), (1, .ref (g 0))]) C dX3_readCell_11 rfl (by decide) rfl ?_
  refine z_iload_n (pc := 12) (i := 2) C 0 dX3_readCell_12 rfl rfl ?_
  refine z_bipush (pc := 13) C (-4 : Int32) dX3_readCell_13 (by decide) ?_
  refine z_icmp_ne (pc := 15) C 21 dX3_readCell_15 (by decide) (fun hc2 => ?_) (fun hc2 => ?_)
  · have hf := bb_e hf hc2
    refine z_aload_n (pc := 21) (i := 0) C 1 dX3_readCell_21 rfl rfl ?_
    refine z_iconst (pc := 22) C (0 : Int32) dX3_readCell_22 (by decide) ?_
    refine z_aload_n (pc := 23) (i := 1) C 2 dX3_readCell_23 rfl rfl ?_
    refine z_get (pc := 24) (ci := 0) C (.int (s1.1 1)) bi_X0 rfl 2 1 (by decide) rfl bf_X3_78 rfl rfl dX3_readCell_24 ?_
    refine z_iconst (pc := 27) C (1 : Int32) dX3_readCell_27 (by decide) ?_
    refine z_isub (pc := 28) C dX3_readCell_28 ?_
    obtain ⟨q3, hq3, hf⟩ := bb_b_some hf
    refine z_callVi (pc := 29) (ci := 3) (q0 := 0) (As := [.int ((0 : Int32)), .int ((s1.1 1) - ((1 : Int32)))]) (rest := []) (ws' := wX3 X.cs h q3.2 ++ wX0 X.cs g s1) C (hR.le (by decide)) (c_X3_readDigit h hq3) (cut_X3X0_0 _ _ _ _ _ _) bv_X3_readDigit bm_X3_37 rfl rfl rfl rfl (Nat.le_of_ble_eq_true rfl) dX3_readCell_29 ?_
    refine z_istore_n (pc := 32) (i := 3) (lv' := [(3, .int q3.1), (2, .int q1.1), (0, .ref (h 0)), (1, .ref (g 0))]) C dX3_readCell_32 rfl (by decide) rfl ?_
    refine z_iload_n (pc := 33) (i := 3) C 0 dX3_readCell_33 rfl rfl ?_
    refine z_bipush (pc := 34) C (-4 : Int32) dX3_readCell_34 (by decide) ?_
    refine z_icmp_ne (pc := 36) C 44 dX3_readCell_36 (by decide) (fun hc4 => ?_) (fun hc4 => ?_)
    · have hf := bb_e hf hc4
      refine z_iload_n (pc := 44) (i := 2) C 1 dX3_readCell_44 rfl rfl ?_
      refine z_aload_n (pc := 45) (i := 1) C 3 dX3_readCell_45 rfl rfl ?_
      refine z_get (pc := 46) (ci := 0) C (.int (s1.1 1)) bi_X0 rfl 2 1 (by decide) rfl bf_X3_78 rfl rfl dX3_readCell_46 ?_
      refine z_imul (pc := 49) C dX3_readCell_49 ?_
      refine z_iload_n (pc := 50) (i := 3) C 0 dX3_readCell_50 rfl rfl ?_
      refine z_iadd (pc := 51) C dX3_readCell_51 ?_
      refine z_lv [] rfl ?_
      exact B_X3_readCell_52 C hR hr h g R  hf
    · have hf := bb_t hf hc4
      refine z_bipush (pc := 39) C (-4 : Int32) dX3_readCell_39 (by decide) ?_
      refine z_goto (pc := 41) C 52 dX3_readCell_41 (by decide) ?_
      refine z_lv [] rfl ?_
      exact B_X3_readCell_52 C hR hr h g R  hf
  · have hf := bb_t hf hc2
    refine z_bipush (pc := 18) C (-4 : Int32) dX3_readCell_18 (by decide) ?_
    obtain rfl := Option.some.inj hf
    exact z_iret (pc := 20) C hr R dX3_readCell_20
theorem c_X3_readCell {l : Launch} {D : va_G} {cs : Nat → ClassId} (h : Nat → Nat) (g : Nat → Nat) {s0 : bb_O} {s1 : bb_O} {z : (Int32 × (bb_O × bb_O))} (hf : F_X3_readCell_0 s0 s1 = some z) : bb_M l yX3_readCell cX3_readCell 4 (some .int) 3 D cs [.ref (h 0), .ref (g 0)] (some (.int z.1)) (wX3 cs h s0 ++ wX0 cs g s1) (wX3 cs h z.2.1 ++ wX0 cs g z.2.2) := bb_mg (by decide) rfl (Nat.le_of_ble_eq_true rfl) rfl (fun X hl hD hcs C hR hr R => by
  subst hl
  subst hD
  subst hcs
  exact B_X3_readCell_0 C hR hr h g R hf)
/-! X3_readStreets: writes, level 4 -/
noncomputable def F_X3_readStreets_23 (s0 : bb_O) (s1 : bb_O) : Option (Int32 × (bb_O × bb_O)) := some ((0 : Int32), (s0, s1))
set_option maxHeartbeats 4000000 in
set_option maxRecDepth 100000 in
theorem B_X3_readStreets_23 {X : bb_X} (C : bb_C X RX3 cX3_readStreets 5) (hR : bb_r X 4) (hr : X.meth.sig.returnType = (some .boolean)) (h : Nat → Nat) (g : Nat → Nat) {z : (Int32 × (bb_O × bb_O))} (R : bb_R X (some (.int z.1)) (wX3 X.cs h z.2.1 ++ wX0 X.cs g z.2.2)) {s0 : bb_O} {s1 : bb_O} (hf : F_X3_readStreets_23 s0 s1 = some z) : bb_Z X 5 (wX3 X.cs h s0 ++ wX0 X.cs g s1) 23 [] [] := by
  refine z_iconst (pc := 23) C (0 : Int32) dX3_readStreets_23 (by decide) ?_
  obtain rfl := Option.some.inj hf
  exact z_zret (pc := 24) C hr (bb_nz (Or.inl rfl)) R dX3_readStreets_24
noncomputable def F_X3_readStreets_48 (s0 : bb_O) (s1 : bb_O) : Option (Int32 × (bb_O × bb_O)) := some ((0 : Int32), (s0, s1))
set_option maxHeartbeats 4000000 in
set_option maxRecDepth 100000 in
theorem B_X3_readStreets_48 {X : bb_X} (C : bb_C X RX3 cX3_readStreets 5) (hR : bb_r X 4) (hr : X.meth.sig.returnType = (some .boolean)) (h : Nat → Nat) (g : Nat → Nat) {z : (Int32 × (bb_O × bb_O))} (R : bb_R X (some (.int z.1)) (wX3 X.cs h z.2.1 ++ wX0 X.cs g z.2.2)) {s0 : bb_O} {s1 : bb_O} (hf : F_X3_readStreets_48 s0 s1 = some z) : bb_Z X 5 (wX3 X.cs h s0 ++ wX0 X.cs g s1) 48 [] [] := by
  refine z_iconst (pc := 48) C (0 : Int32) dX3_readStreets_48 (by decide) ?_
  obtain rfl := Option.some.inj hf
  exact z_zret (pc := 49) C hr (bb_nz (Or.inl rfl)) R dX3_readStreets_49
noncomputable def F_X3_readStreets_85 (s0 : bb_O) (s1 : bb_O) (y0 : Int32) : Option (Int32 × (bb_O × bb_O)) := bb_g (bb_z y0) (some (y0, (s0, s1)))
set_option maxHeartbeats 4000000 in
set_option maxRecDepth 100000 in
theorem B_X3_readStreets_85 {X : bb_X} (C : bb_C X RX3 cX3_readStreets 5) (hR : bb_r X 4) (hr : X.meth.sig.returnType = (some .boolean)) (h : Nat → Nat) (g : Nat → Nat) {z : (Int32 × (bb_O × bb_O))} (R : bb_R X (some (.int z.1)) (wX3 X.cs h z.2.1 ++ wX0 X.cs g z.2.2)) {s0 : bb_O} {s1 : bb_O} {y0 : Int32} (hf : F_X3_readStreets_85 s0 s1 y0 = some z) : bb_Z X 5 (wX3 X.cs h s0 ++ wX0 X.cs g s1) 85 [] [.int y0] := by
  obtain ⟨hz1, hf⟩ := bb_g_some hf
  obtain rfl := Option.some.inj hf
  exact z_zret (pc := 85) C hr (bb_nz hz1) R dX3_readStreets_85
noncomputable def F_X3_readStreets_0 (s0 : bb_O) (s1 : bb_O) : Option (Int32 × (bb_O × bb_O)) := (F_X3_readDigit_0 s0 ((2 : Int32)) ((6 : Int32))).bind (fun q1 => if q1.1 = ((-4 : Int32)) then (F_X3_readStreets_23 q1.2 s1) else ((F_X3_readSign_0 q1.2 ((120 : Int32))).bind (fun q3 => if q3.1 = 0 then (F_X3_readStreets_23 q3.2 s1) else ((F_X3_readDigit_0 q3.2 ((2 : Int32)) ((6 : Int32))).bind (fun q5 => if q5.1 = ((-4 : Int32)) then (F_X3_readStreets_48 q5.2 s1) else ((F_X3_readSign_0 q5.2 ((64 : Int32))).bind (fun q7 => if q7.1 = 0 then (F_X3_readStreets_48 q7.2 s1) else ((F_X0_build_0 s1 q1.1 q5.1).bind (fun q9 => (F_X3_readCell_0 q7.2 q9).bind (fun q10 => if q10.1 = ((-4 : Int32)) then (F_X3_readStreets_85 q10.2.1 (bb_sf q10.2.2 3 (if q10.1 < ((0 : Int32)) then ((0 : Int32)) else q10.1)) ((0 : Int32))) else (F_X3_readStreets_85 q10.2.1 (bb_sf q10.2.2 3 (if q10.1 < ((0 : Int32)) then ((0 : Int32)) else q10.1)) ((1 : Int32)))))))))))))
set_option maxHeartbeats 4000000 in
set_option maxRecDepth 100000 in
theorem B_X3_readStreets_0 {X : bb_X} (C : bb_C X RX3 cX3_readStreets 5) (hR : bb_r X 4) (hr : X.meth.sig.returnType = (some .boolean)) (h : Nat → Nat) (g : Nat → Nat) {z : (Int32 × (bb_O × bb_O))} (R : bb_R X (some (.int z.1)) (wX3 X.cs h z.2.1 ++ wX0 X.cs g z.2.2)) {s0 : bb_O} {s1 : bb_O} (hf : F_X3_readStreets_0 s0 s1 = some z) : bb_Z X 5 (wX3 X.cs h s0 ++ wX0 X.cs g s1) 0 [(0, .ref (h 0)), (1, .ref (g 0))] [] := by
  refine z_aload_n (pc := 0) (i := 0) C 0 dX3_readStreets_0 rfl rfl ?_
  refine z_iconst (pc := 1) C (2 : Int32) dX3_readStreets_1 (by decide) ?_
  refine z_bipush (pc := 2) C (6 : Int32) dX3_readStreets_2 (by decide) ?_
  obtain ⟨q1, hq1, hf⟩ := bb_b_some hf
  refine z_callVi (pc := 4) (ci := 3) (q0 := 0) (As := [.int ((2 : Int32)), .int ((6 : Int32))]) (rest := []) (ws' := wX3 X.cs h q1.2 ++ wX0 X.cs g s1) C (hR.le (by decide)) (c_X3_readDigit h hq1) (cut_X3X0_0 _ _ _ _ _ _) bv_X3_readDigit bm_X3_37 rfl rfl rfl rfl (Nat.le_of_ble_eq_true rfl) dX3_readStreets_4 ?_
  refine z_istore_n (pc := 7) (i := 2) (lv' := [(2, .int q1.1), (0, .ref (h 0)), (1, .ref (g 0))]) C dX3_readStreets_7 rfl (by decide) rfl ?_
  refine z_iload_n (pc := 8) (i := 2) C 0 dX3_readStreets_8 rfl rfl ?_
  refine z_bipush (pc := 9) C (-4 : Int32) dX3_readStreets_9 (by decide) ?_
  refine z_icmp_eq (pc := 11) C 23 dX3_readStreets_11 (by decide) (fun hc2 => ?_) (fun hc2 => ?_)
  · have hf := bb_t hf hc2
    refine z_lv [] rfl ?_
    exact B_X3_readStreets_23 C hR hr h g R  hf
  · have hf := bb_e hf hc2
    refine z_aload_n (pc := 14) (i := 0) C 1 dX3_readStreets_14 rfl rfl ?_
    refine z_bipush (pc := 15) C (120 : Int32) dX3_readStreets_15 (by decide) ?_
    obtain ⟨q3, hq3, hf⟩ := bb_b_some hf
    refine z_callVi (pc := 17) (ci := 3) (q0 := 0) (As := [.int ((120 : Int32))]) (rest := []) (ws' := wX3 X.cs h q3.2 ++ wX0 X.cs g s1) C (hR.le (by decide)) (c_X3_readSign h hq3) (cut_X3X0_0 _ _ _ _ _ _) bv_X3_readSign bm_X3_26 rfl rfl rfl rfl (Nat.le_of_ble_eq_true rfl) dX3_readStreets_17 ?_
    refine z_if_ne (pc := 20) C 25 dX3_readStreets_20 (by decide) (fun hc4 => ?_) (fun hc4 => ?_)
    · have hf := bb_e hf hc4
      refine z_aload_n (pc := 25) (i := 0) C 1 dX3_readStreets_25 rfl rfl ?_
      refine z_iconst (pc := 26) C (2 : Int32) dX3_readStreets_26 (by decide) ?_
      refine z_bipush (pc := 27) C (6 : Int32) dX3_readStreets_27 (by decide) ?_
      obtain ⟨q5, hq5, hf⟩ := bb_b_some hf
      refine z_callVi (pc := 29) (ci := 3) (q0 := 0) (As := [.int ((2 : Int32)), .int ((6 : Int32))]) (rest := []) (ws' := wX3 X.cs h q5.2 ++ wX0 X.cs g s1) C (hR.le (by decide)) (c_X3_readDigit h hq5) (cut_X3X0_0 _ _ _ _ _ _) bv_X3_readDigit bm_X3_37 rfl rfl rfl rfl (Nat.le_of_ble_eq_true rfl) dX3_readStreets_29 ?_
      refine z_istore_n (pc := 32) (i := 3) (lv' := [(3, .int q5.1), (2, .int q1.1), (0, .ref (h 0)), (1, .ref (g 0))]) C dX3_readStreets_32 rfl (by decide) rfl ?_
      refine z_iload_n (pc := 33) (i := 3) C 0 dX3_readStreets_33 rfl rfl ?_
      refine z_bipush (pc := 34) C (-4 : Int32) dX3_readStreets_34 (by decide) ?_
      refine z_icmp_eq (pc := 36) C 48 dX3_readStreets_36 (by decide) (fun hc6 => ?_) (fun hc6 => ?_)
      · have hf := bb_t hf hc6
        refine z_lv [] rfl ?_
        exact B_X3_readStreets_48 C hR hr h g R  hf
      · have hf := bb_e hf hc6
        refine z_aload_n (pc := 39) (i := 0) C 2 dX3_readStreets_39 rfl rfl ?_
        refine z_bipush (pc := 40) C (64 : Int32) dX3_readStreets_40 (by decide) ?_
        obtain ⟨q7, hq7, hf⟩ := bb_b_some hf
        refine z_callVi (pc := 42) (ci := 3) (q0 := 0) (As := [.int ((64 : Int32))]) (rest := []) (ws' := wX3 X.cs h q7.2 ++ wX0 X.cs g s1) C (hR.le (by decide)) (c_X3_readSign h hq7) (cut_X3X0_0 _ _ _ _ _ _) bv_X3_readSign bm_X3_26 rfl rfl rfl rfl (Nat.le_of_ble_eq_true rfl) dX3_readStreets_42 ?_
        refine z_if_ne (pc := 45) C 50 dX3_readStreets_45 (by decide) (fun hc8 => ?_) (fun hc8 => ?_)
        · have hf := bb_e hf hc8
          refine z_aload_n (pc := 50) (i := 1) C 3 dX3_readStreets_50 rfl rfl ?_
          refine z_iload_n (pc := 51) (i := 2) C 1 dX3_readStreets_51 rfl rfl ?_
          refine z_iload_n (pc := 52) (i := 3) C 0 dX3_readStreets_52 rfl rfl ?_
          obtain ⟨q9, hq9, hf⟩ := bb_b_some hf
          refine z_callVv (pc := 53) (ci := 0) (q0 := 0) (As := [.int q1.1, .int q5.1]) (rest := []) (ws' := wX3 X.cs h q7.2 ++ wX0 X.cs g q9) C (hR.le (by decide)) (c_X0_build g hq9) (cut_X3X0_1 _ _ _ _ _ _) bv_X0_build bm_X3_41 rfl rfl rfl rfl (Nat.le_of_ble_eq_true rfl) dX3_readStreets_53 ?_
          refine z_aload_n (pc := 56) (i := 0) C 2 dX3_readStreets_56 rfl rfl ?_
          refine z_aload_n (pc := 57) (i := 1) C 3 dX3_readStreets_57 rfl rfl ?_
          obtain ⟨q10, hq10, hf⟩ := bb_b_some hf
          refine z_callVi (pc := 58) (ci := 3) (q0 := 0) (As := [.ref (g 0)]) (rest := []) (ws' := wX3 X.cs h q10.2.1 ++ wX0 X.cs g q10.2.2) C (hR.le (by decide)) (c_X3_readCell h g hq10) (bb_cut_self _ _) bv_X3_readCell bm_X3_47 rfl rfl rfl rfl (Nat.le_of_ble_eq_true rfl) dX3_readStreets_58 ?_
          refine z_istore (pc := 61) (lv' := [(4, .int q10.1), (3, .int q5.1), (2, .int q1.1), (0, .ref (h 0)), (1, .ref (g 0))]) C dX3_readStreets_61 (by decide) rfl ?_
          refine z_aload_n (pc := 63) (i := 1) C 4 dX3_readStreets_63 rfl rfl ?_
          refine z_iload (pc := 64) C 0 dX3_readStreets_64 rfl ?_
          refine z_iconst (pc := 66) C (0 : Int32) dX3_readStreets_66 (by decide) ?_
          refine z_mmax (pc := 67) C (hR.le (by decide)) bm_X3_51 bl_max_s bl_Math bl_max_c (Nat.le_of_ble_eq_true rfl) dX3_readStreets_67 ?_
          refine z_put (pc := 70) (ci := 0) (ty := .int) (ws' := wX3 X.cs h q10.2.1 ++ wX0 X.cs g (bb_sf q10.2.2 3 (if q10.1 < ((0 : Int32)) then ((0 : Int32)) else q10.1))) C bi_X0 tyX0_ok nmX0 rfl 2 3 (by decide) rfl bf_X3_56 rfl rfl rfl rfl rfl (Nat.le_of_ble_eq_true rfl) rfl dX3_readStreets_70 ?_
          refine z_iload (pc := 73) C 0 dX3_readStreets_73 rfl ?_
          refine z_bipush (pc := 75) C (-4 : Int32) dX3_readStreets_75 (by decide) ?_
          refine z_icmp_eq (pc := 77) C 84 dX3_readStreets_77 (by decide) (fun hc11 => ?_) (fun hc11 => ?_)
          · have hf := bb_t hf hc11
            refine z_iconst (pc := 84) C (0 : Int32) dX3_readStreets_84 (by decide) ?_
            refine z_lv [] rfl ?_
            exact B_X3_readStreets_85 C hR hr h g R  hf
          · have hf := bb_e hf hc11
            refine z_iconst (pc := 80) C (1 : Int32) dX3_readStreets_80 (by decide) ?_
            refine z_goto (pc := 81) C 85 dX3_readStreets_81 (by decide) ?_
            refine z_lv [] rfl ?_
            exact B_X3_readStreets_85 C hR hr h g R  hf
        · have hf := bb_t hf hc8
          refine z_lv [] rfl ?_
          exact B_X3_readStreets_48 C hR hr h g R  hf
    · have hf := bb_t hf hc4
      refine z_lv [] rfl ?_
      exact B_X3_readStreets_23 C hR hr h g R  hf
theorem c_X3_readStreets {l : Launch} {D : va_G} {cs : Nat → ClassId} (h : Nat → Nat) (g : Nat → Nat) {s0 : bb_O} {s1 : bb_O} {z : (Int32 × (bb_O × bb_O))} (hf : F_X3_readStreets_0 s0 s1 = some z) : bb_M l yX3_readStreets cX3_readStreets 5 (some .boolean) 4 D cs [.ref (h 0), .ref (g 0)] (some (.int z.1)) (wX3 cs h s0 ++ wX0 cs g s1) (wX3 cs h z.2.1 ++ wX0 cs g z.2.2) := bb_mg (by decide) rfl (Nat.le_of_ble_eq_true rfl) rfl (fun X hl hD hcs C hR hr R => by
  subst hl
  subst hD
  subst hcs
  exact B_X3_readStreets_0 C hR hr h g R hf)
/-! X3_readFeatures: writes, level 2 -/
noncomputable def F_X3_readFeatures_37 (k4 : bb_O → Int32 → Int32 → Option (Int32 × bb_O)) (s0 : bb_O) (x1 : Int32) (x2 : Int32) : Option (Int32 × bb_O) := k4 s0 x1 (x2 + 1)
set_option maxHeartbeats 4000000 in
set_option maxRecDepth 100000 in
theorem B_X3_readFeatures_37 {X : bb_X} (C : bb_C X RX3 cX3_readFeatures 3) (hR : bb_r X 2) (hr : X.meth.sig.returnType = (some .int)) (h : Nat → Nat) {z : (Int32 × bb_O)} (R : bb_R X (some (.int z.1)) (wX3 X.cs h z.2)) {k4 : bb_O → Int32 → Int32 → Option (Int32 × bb_O)} (hk4 : ∀ (s0 : bb_O) (x1 : Int32) (x2 : Int32), k4 s0 x1 x2 = some z → bb_Z X 3 (wX3 X.cs h s0) 4 [(0, .ref (h 0)), (1, .int x1), (2, .int x2)] []) {s0 : bb_O} {x1 : Int32} {x2 : Int32} (hf : F_X3_readFeatures_37 k4 s0 x1 x2 = some z) : bb_Z X 3 (wX3 X.cs h s0) 37 [(0, .ref (h 0)), (1, .int x1), (2, .int x2)] [] := by
  refine z_iinc (pc := 37) (lv' := [(2, .int (x2 + 1)), (0, .ref (h 0)), (1, .int x1)]) C (x2 + 1) 2 dX3_readFeatures_37 rfl rfl (by decide) rfl ?_
  refine z_goto (pc := 40) C 4 dX3_readFeatures_40 (by decide) ?_
  refine z_lv [1, 2, 0] rfl ?_
  exact hk4 _ _ _ hf
noncomputable def G_X3_readFeatures_4 (k4 : bb_O → Int32 → Int32 → Option (Int32 × bb_O)) (s0 : bb_O) (x1 : Int32) (x2 : Int32) : Option (Int32 × bb_O) := if ((6 : Int32)) ≤ x2 then (some (x1, s0)) else ((F_X3_peek_e s0).bind (fun q2 => if q2.1 = (((97 : Int32)) + x2) then (F_X3_readFeatures_37 k4 (bb_sf q2.2 2 ((q2.2.1 2) + ((1 : Int32)))) (x1 ||| (((1 : Int32)) <<< (x2 &&& 31))) x2) else (F_X3_readFeatures_37 k4 q2.2 x1 x2)))
noncomputable def F_X3_readFeatures_4  : Nat → bb_O → Int32 → Int32 → Option (Int32 × bb_O)
  | 0, _, _, _ => none
  | n + 1, s0, x1, x2 => G_X3_readFeatures_4  (F_X3_readFeatures_4  n) s0 x1 x2
set_option maxHeartbeats 4000000 in
set_option maxRecDepth 100000 in
theorem A_X3_readFeatures_4 {X : bb_X} (C : bb_C X RX3 cX3_readFeatures 3) (hR : bb_r X 2) (hr : X.meth.sig.returnType = (some .int)) (h : Nat → Nat) {z : (Int32 × bb_O)} (R : bb_R X (some (.int z.1)) (wX3 X.cs h z.2)) {k4 : bb_O → Int32 → Int32 → Option (Int32 × bb_O)} (hk4 : ∀ (s0 : bb_O) (x1 : Int32) (x2 : Int32), k4 s0 x1 x2 = some z → bb_Z X 3 (wX3 X.cs h s0) 4 [(0, .ref (h 0)), (1, .int x1), (2, .int x2)] []) {s0 : bb_O} {x1 : Int32} {x2 : Int32} (hf : G_X3_readFeatures_4 k4 s0 x1 x2 = some z) : bb_Z X 3 (wX3 X.cs h s0) 4 [(0, .ref (h 0)), (1, .int x1), (2, .int x2)] [] := by
  refine z_iload_n (pc := 4) (i := 2) C 2 dX3_readFeatures_4 rfl rfl ?_
  refine z_bipush (pc := 5) C (6 : Int32) dX3_readFeatures_5 (by decide) ?_
  refine z_icmp_ge (pc := 7) C 43 dX3_readFeatures_7 (by decide) (fun hc1 => ?_) (fun hc1 => ?_)
  · have hf := bb_t hf hc1
    refine z_iload_n (pc := 43) (i := 1) C 1 dX3_readFeatures_43 rfl rfl ?_
    obtain rfl := Option.some.inj hf
    exact z_iret (pc := 44) C hr R dX3_readFeatures_44
  · have hf := bb_e hf hc1
    refine z_aload_n (pc := 10) (i := 0) C 0 dX3_readFeatures_10 rfl rfl ?_
    obtain ⟨q2, hq2, hf⟩ := bb_b_some hf
    refine z_callVi (pc := 11) (ci := 3) (q0 := 0) (As := []) (rest := []) (ws' := wX3 X.cs h q2.2) C (hR.le (by decide)) (c_X3_peek h hq2) (bb_cut_self _ _) bv_X3_peek bm_X3_33 rfl rfl rfl rfl (Nat.le_of_ble_eq_true rfl) dX3_readFeatures_11 ?_
    refine z_bipush (pc := 14) C (97 : Int32) dX3_readFeatures_14 (by decide) ?_
    refine z_iload_n (pc := 16) (i := 2) C 2 dX3_readFeatures_16 rfl rfl ?_
    refine z_iadd (pc := 17) C dX3_readFeatures_17 ?_
    refine z_icmp_ne (pc := 18) C 37 dX3_readFeatures_18 (by decide) (fun hc3 => ?_) (fun hc3 => ?_)
    · have hf := bb_e hf hc3
      exact B_X3_readFeatures_37 C hR hr h R hk4 hf
    · have hf := bb_t hf hc3
      refine z_iload_n (pc := 21) (i := 1) C 1 dX3_readFeatures_21 rfl rfl ?_
      refine z_iconst (pc := 22) C (1 : Int32) dX3_readFeatures_22 (by decide) ?_
      refine z_iload_n (pc := 23) (i := 2) C 2 dX3_readFeatures_23 rfl rfl ?_
      refine z_ishl (pc := 24) C dX3_readFeatures_24 ?_
      refine z_ior (pc := 25) C dX3_readFeatures_25 ?_
      refine z_istore_n (pc := 26) (i := 1) (lv' := [(1, .int (x1 ||| (((1 : Int32)) <<< (x2 &&& 31)))), (0, .ref (h 0)), (2, .int x2)]) C dX3_readFeatures_26 rfl (by decide) rfl ?_
      refine z_aload_n (pc := 27) (i := 0) C 1 dX3_readFeatures_27 rfl rfl ?_
      refine z_dup (pc := 28) C dX3_readFeatures_28 rfl ?_
      refine z_get (pc := 29) (ci := 3) C (.int (q2.2.1 2)) bi_X3 rfl 0 2 (by decide) rfl bf_X3_19 rfl rfl dX3_readFeatures_29 ?_
      refine z_iconst (pc := 32) C (1 : Int32) dX3_readFeatures_32 (by decide) ?_
      refine z_iadd (pc := 33) C dX3_readFeatures_33 ?_
      refine z_put (pc := 34) (ci := 3) (ty := .int) (ws' := wX3 X.cs h (bb_sf q2.2 2 ((q2.2.1 2) + ((1 : Int32))))) C bi_X3 tyX3_ok nmX3 rfl 0 2 (by decide) rfl bf_X3_19 rfl rfl rfl rfl rfl (Nat.le_of_ble_eq_true rfl) rfl dX3_readFeatures_34 ?_
      refine z_lv [1, 0, 2] rfl ?_
      exact B_X3_readFeatures_37 C hR hr h R hk4 hf
theorem B_X3_readFeatures_4 {X : bb_X} (C : bb_C X RX3 cX3_readFeatures 3) (hR : bb_r X 2) (hr : X.meth.sig.returnType = (some .int)) (h : Nat → Nat) {z : (Int32 × bb_O)} (R : bb_R X (some (.int z.1)) (wX3 X.cs h z.2)) : ∀ (n : Nat) (s0 : bb_O) (x1 : Int32) (x2 : Int32), F_X3_readFeatures_4  n s0 x1 x2 = some z → bb_Z X 3 (wX3 X.cs h s0) 4 [(0, .ref (h 0)), (1, .int x1), (2, .int x2)] [] := by
  intro n
  induction n with
  | zero =>
    intro s0 x1 x2 hf
    cases hf
  | succ n ih =>
    intro s0 x1 x2 hf
    exact A_X3_readFeatures_4 C hR hr h R  ih hf
noncomputable def F_X3_readFeatures_0 (s0 : bb_O) : Option (Int32 × bb_O) := F_X3_readFeatures_4 bb_N s0 ((0 : Int32)) ((0 : Int32))
set_option maxHeartbeats 4000000 in
set_option maxRecDepth 100000 in
theorem B_X3_readFeatures_0 {X : bb_X} (C : bb_C X RX3 cX3_readFeatures 3) (hR : bb_r X 2) (hr : X.meth.sig.returnType = (some .int)) (h : Nat → Nat) {z : (Int32 × bb_O)} (R : bb_R X (some (.int z.1)) (wX3 X.cs h z.2)) {s0 : bb_O} (hf : F_X3_readFeatures_0 s0 = some z) : bb_Z X 3 (wX3 X.cs h s0) 0 [(0, .ref (h 0))] [] := by
  refine z_iconst (pc := 0) C (0 : Int32) dX3_readFeatures_0 (by decide) ?_
  refine z_istore_n (pc := 1) (i := 1) (lv' := [(1, .int ((0 : Int32))), (0, .ref (h 0))]) C dX3_readFeatures_1 rfl (by decide) rfl ?_
  refine z_iconst (pc := 2) C (0 : Int32) dX3_readFeatures_2 (by decide) ?_
  refine z_istore_n (pc := 3) (i := 2) (lv' := [(2, .int ((0 : Int32))), (1, .int ((0 : Int32))), (0, .ref (h 0))]) C dX3_readFeatures_3 rfl (by decide) rfl ?_
  refine z_lv [2, 1, 0] rfl ?_
  exact B_X3_readFeatures_4 C hR hr h R  bb_N _ _ _ hf
theorem c_X3_readFeatures {l : Launch} {D : va_G} {cs : Nat → ClassId} (h : Nat → Nat) {s0 : bb_O} {z : (Int32 × bb_O)} (hf : F_X3_readFeatures_0 s0 = some z) : bb_M l yX3_readFeatures cX3_readFeatures 3 (some .int) 2 D cs [.ref (h 0)] (some (.int z.1)) (wX3 cs h s0) (wX3 cs h z.2) := bb_mg (by decide) rfl (Nat.le_of_ble_eq_true rfl) rfl (fun X hl hD hcs C hR hr R => by
  subst hl
  subst hD
  subst hcs
  exact B_X3_readFeatures_0 C hR hr h R hf)
