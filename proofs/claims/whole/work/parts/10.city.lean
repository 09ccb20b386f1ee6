/-! X0_take: writes, level 1 -/
noncomputable def F_X0_take_147 (s0 : bb_O) (s1 : bb_O) : Option (bb_O × bb_O) := some (s0, s1)
set_option maxHeartbeats 4000000 in
set_option maxRecDepth 100000 in
theorem B_X0_take_147 {X : bb_X} (C : bb_C X RX0 cX0_take 2) (hR : bb_r X 1) (hr : X.meth.sig.returnType = none) (h : Nat → Nat) (g : Nat → Nat) {z : (bb_O × bb_O)} (R : bb_R X none (wX0 X.cs h z.1 ++ wX0 X.cs g z.2)) {s0 : bb_O} {s1 : bb_O} (hf : F_X0_take_147 s0 s1 = some z) : bb_Z X 2 (wX0 X.cs h s0 ++ wX0 X.cs g s1) 147 [] [] := by
  obtain rfl := Option.some.inj hf
  exact z_vret (pc := 147) C hr R dX0_take_147
noncomputable def F_X0_take_117 (s0 : bb_O) (s1 : bb_O) : Option (bb_O × bb_O) := F_X0_take_147 (bb_sA (bb_sA s0 12 (va_cpy (s1.2.1 12) (s0.2.1 12) 0 0 6)) 13 (va_cpy (s1.2.1 13) ((bb_sA s0 12 (va_cpy (s1.2.1 12) (s0.2.1 12) 0 0 6)).2.1 13) 0 0 6)) s1
set_option maxHeartbeats 4000000 in
set_option maxRecDepth 100000 in
theorem B_X0_take_117 {X : bb_X} (C : bb_C X RX0 cX0_take 2) (hR : bb_r X 1) (hr : X.meth.sig.returnType = none) (h : Nat → Nat) (g : Nat → Nat) {z : (bb_O × bb_O)} (R : bb_R X none (wX0 X.cs h z.1 ++ wX0 X.cs g z.2)) {s0 : bb_O} {s1 : bb_O} (hf : F_X0_take_117 s0 s1 = some z) : bb_Z X 2 (wX0 X.cs h s0 ++ wX0 X.cs g s1) 117 [(0, .ref (h 0)), (1, .ref (g 0))] [] := by
  refine z_aload_n (pc := 117) (i := 1) C 1 dX0_take_117 rfl rfl ?_
  refine z_get (pc := 118) (ci := 0) C (.ref (g 13)) bi_X0 rfl 6 12 (by decide) rfl bf_X0_31 rfl rfl dX0_take_118 ?_
  refine z_iconst (pc := 121) C (0 : Int32) dX0_take_121 (by decide) ?_
  refine z_aload_n (pc := 122) (i := 0) C 0 dX0_take_122 rfl rfl ?_
  refine z_get (pc := 123) (ci := 0) C (.ref (h 13)) bi_X0 rfl 0 12 (by decide) rfl bf_X0_31 rfl rfl dX0_take_123 ?_
  refine z_iconst (pc := 126) C (0 : Int32) dX0_take_126 (by decide) ?_
  refine z_bipush (pc := 127) C (6 : Int32) dX0_take_127 (by decide) ?_
  refine z_copyi (pc := 129) (ws' := wX0 X.cs h (bb_sA s0 12 (va_cpy (s1.2.1 12) (s0.2.1 12) 0 0 6)) ++ wX0 X.cs g s1) C (hR.le (by decide)) bm_X0_55 bl_ac_n bl_ac_s bl_System 10 4 0 0 (0) (0) (6) rfl rfl rfl rfl rfl (by decide) (by decide) (by decide) (by decide) (by decide) (by decide) (by decide) (by decide) (Nat.le_of_ble_eq_true rfl) rfl dX0_take_129 ?_
  refine z_aload_n (pc := 132) (i := 1) C 1 dX0_take_132 rfl rfl ?_
  refine z_get (pc := 133) (ci := 0) C (.ref (g 14)) bi_X0 rfl 6 13 (by decide) rfl bf_X0_34 rfl rfl dX0_take_133 ?_
  refine z_iconst (pc := 136) C (0 : Int32) dX0_take_136 (by decide) ?_
  refine z_aload_n (pc := 137) (i := 0) C 0 dX0_take_137 rfl rfl ?_
  refine z_get (pc := 138) (ci := 0) C (.ref (h 14)) bi_X0 rfl 0 13 (by decide) rfl bf_X0_34 rfl rfl dX0_take_138 ?_
  refine z_iconst (pc := 141) C (0 : Int32) dX0_take_141 (by decide) ?_
  refine z_bipush (pc := 142) C (6 : Int32) dX0_take_142 (by decide) ?_
  refine z_copyi (pc := 144) (ws' := wX0 X.cs h (bb_sA (bb_sA s0 12 (va_cpy (s1.2.1 12) (s0.2.1 12) 0 0 6)) 13 (va_cpy (s1.2.1 13) ((bb_sA s0 12 (va_cpy (s1.2.1 12) (s0.2.1 12) 0 0 6)).2.1 13) 0 0 6)) ++ wX0 X.cs g s1) C (hR.le (by decide)) bm_X0_55 bl_ac_n bl_ac_s bl_System 11 5 0 0 (0) (0) (6) rfl rfl rfl rfl rfl (by decide) (by decide) (by decide) (by decide) (by decide) (by decide) (by decide) (by decide) (Nat.le_of_ble_eq_true rfl) rfl dX0_take_144 ?_
  refine z_lv [] rfl ?_
  exact B_X0_take_147 C hR hr h g R  hf
noncomputable def F_X0_take_87 (s0 : bb_O) (s1 : bb_O) : Option (bb_O × bb_O) := F_X0_take_117 (bb_sA (bb_sA s0 10 (va_cpy (s1.2.1 10) (s0.2.1 10) 0 0 6)) 11 (va_cpy (s1.2.1 11) ((bb_sA s0 10 (va_cpy (s1.2.1 10) (s0.2.1 10) 0 0 6)).2.1 11) 0 0 6)) s1
set_option maxHeartbeats 4000000 in
set_option maxRecDepth 100000 in
theorem B_X0_take_87 {X : bb_X} (C : bb_C X RX0 cX0_take 2) (hR : bb_r X 1) (hr : X.meth.sig.returnType = none) (h : Nat → Nat) (g : Nat → Nat) {z : (bb_O × bb_O)} (R : bb_R X none (wX0 X.cs h z.1 ++ wX0 X.cs g z.2)) {s0 : bb_O} {s1 : bb_O} (hf : F_X0_take_87 s0 s1 = some z) : bb_Z X 2 (wX0 X.cs h s0 ++ wX0 X.cs g s1) 87 [(0, .ref (h 0)), (1, .ref (g 0))] [] := by
  refine z_aload_n (pc := 87) (i := 1) C 1 dX0_take_87 rfl rfl ?_
  refine z_get (pc := 88) (ci := 0) C (.ref (g 11)) bi_X0 rfl 6 10 (by decide) rfl bf_X0_25 rfl rfl dX0_take_88 ?_
  refine z_iconst (pc := 91) C (0 : Int32) dX0_take_91 (by decide) ?_
  refine z_aload_n (pc := 92) (i := 0) C 0 dX0_take_92 rfl rfl ?_
  refine z_get (pc := 93) (ci := 0) C (.ref (h 11)) bi_X0 rfl 0 10 (by decide) rfl bf_X0_25 rfl rfl dX0_take_93 ?_
  refine z_iconst (pc := 96) C (0 : Int32) dX0_take_96 (by decide) ?_
  refine z_bipush (pc := 97) C (6 : Int32) dX0_take_97 (by decide) ?_
  refine z_copyi (pc := 99) (ws' := wX0 X.cs h (bb_sA s0 10 (va_cpy (s1.2.1 10) (s0.2.1 10) 0 0 6)) ++ wX0 X.cs g s1) C (hR.le (by decide)) bm_X0_55 bl_ac_n bl_ac_s bl_System 8 2 0 0 (0) (0) (6) rfl rfl rfl rfl rfl (by decide) (by decide) (by decide) (by decide) (by decide) (by decide) (by decide) (by decide) (Nat.le_of_ble_eq_true rfl) rfl dX0_take_99 ?_
  refine z_aload_n (pc := 102) (i := 1) C 1 dX0_take_102 rfl rfl ?_
  refine z_get (pc := 103) (ci := 0) C (.ref (g 12)) bi_X0 rfl 6 11 (by decide) rfl bf_X0_28 rfl rfl dX0_take_103 ?_
  refine z_iconst (pc := 106) C (0 : Int32) dX0_take_106 (by decide) ?_
  refine z_aload_n (pc := 107) (i := 0) C 0 dX0_take_107 rfl rfl ?_
  refine z_get (pc := 108) (ci := 0) C (.ref (h 12)) bi_X0 rfl 0 11 (by decide) rfl bf_X0_28 rfl rfl dX0_take_108 ?_
  refine z_iconst (pc := 111) C (0 : Int32) dX0_take_111 (by decide) ?_
  refine z_bipush (pc := 112) C (6 : Int32) dX0_take_112 (by decide) ?_
  refine z_copyi (pc := 114) (ws' := wX0 X.cs h (bb_sA (bb_sA s0 10 (va_cpy (s1.2.1 10) (s0.2.1 10) 0 0 6)) 11 (va_cpy (s1.2.1 11) ((bb_sA s0 10 (va_cpy (s1.2.1 10) (s0.2.1 10) 0 0 6)).2.1 11) 0 0 6)) ++ wX0 X.cs g s1) C (hR.le (by decide)) bm_X0_55 bl_ac_n bl_ac_s bl_System 9 3 0 0 (0) (0) (6) rfl rfl rfl rfl rfl (by decide) (by decide) (by decide) (by decide) (by decide) (by decide) (by decide) (by decide) (Nat.le_of_ble_eq_true rfl) rfl dX0_take_114 ?_
  exact B_X0_take_117 C hR hr h g R  hf
noncomputable def F_X0_take_40 (s0 : bb_O) (s1 : bb_O) : Option (bb_O × bb_O) := F_X0_take_87 (bb_sA (bb_sf (bb_sf (bb_sf (bb_sf s0 5 (s1.1 5)) 6 (s1.1 6)) 7 (s1.1 7)) 8 (s1.1 8)) 9 (va_cpy (s1.2.1 9) ((bb_sf (bb_sf (bb_sf (bb_sf s0 5 (s1.1 5)) 6 (s1.1 6)) 7 (s1.1 7)) 8 (s1.1 8)).2.1 9) 0 0 6)) s1
set_option maxHeartbeats 4000000 in
set_option maxRecDepth 100000 in
theorem B_X0_take_40 {X : bb_X} (C : bb_C X RX0 cX0_take 2) (hR : bb_r X 1) (hr : X.meth.sig.returnType = none) (h : Nat → Nat) (g : Nat → Nat) {z : (bb_O × bb_O)} (R : bb_R X none (wX0 X.cs h z.1 ++ wX0 X.cs g z.2)) {s0 : bb_O} {s1 : bb_O} (hf : F_X0_take_40 s0 s1 = some z) : bb_Z X 2 (wX0 X.cs h s0 ++ wX0 X.cs g s1) 40 [(0, .ref (h 0)), (1, .ref (g 0))] [] := by
  refine z_aload_n (pc := 40) (i := 0) C 0 dX0_take_40 rfl rfl ?_
  refine z_aload_n (pc := 41) (i := 1) C 1 dX0_take_41 rfl rfl ?_
  refine z_get (pc := 42) (ci := 0) C (.int (s1.1 5)) bi_X0 rfl 6 5 (by decide) rfl bf_X0_46 rfl rfl dX0_take_42 ?_
  refine z_put (pc := 45) (ci := 0) (ty := .int) (ws' := wX0 X.cs h (bb_sf s0 5 (s1.1 5)) ++ wX0 X.cs g s1) C bi_X0 tyX0_ok nmX0 rfl 0 5 (by decide) rfl bf_X0_46 rfl rfl rfl rfl rfl (Nat.le_of_ble_eq_true rfl) rfl dX0_take_45 ?_
  refine z_aload_n (pc := 48) (i := 0) C 0 dX0_take_48 rfl rfl ?_
  refine z_aload_n (pc := 49) (i := 1) C 1 dX0_take_49 rfl rfl ?_
  refine z_get (pc := 50) (ci := 0) C (.int (s1.1 6)) bi_X0 rfl 6 6 (by decide) rfl bf_X0_49 rfl rfl dX0_take_50 ?_
  refine z_put (pc := 53) (ci := 0) (ty := .int) (ws' := wX0 X.cs h (bb_sf (bb_sf s0 5 (s1.1 5)) 6 (s1.1 6)) ++ wX0 X.cs g s1) C bi_X0 tyX0_ok nmX0 rfl 0 6 (by decide) rfl bf_X0_49 rfl rfl rfl rfl rfl (Nat.le_of_ble_eq_true rfl) rfl dX0_take_53 ?_
  refine z_aload_n (pc := 56) (i := 0) C 0 dX0_take_56 rfl rfl ?_
  refine z_aload_n (pc := 57) (i := 1) C 1 dX0_take_57 rfl rfl ?_
  refine z_get (pc := 58) (ci := 0) C (.int (s1.1 7)) bi_X0 rfl 6 7 (by decide) rfl bf_X0_52 rfl rfl dX0_take_58 ?_
  refine z_put (pc := 61) (ci := 0) (ty := .int) (ws' := wX0 X.cs h (bb_sf (bb_sf (bb_sf s0 5 (s1.1 5)) 6 (s1.1 6)) 7 (s1.1 7)) ++ wX0 X.cs g s1) C bi_X0 tyX0_ok nmX0 rfl 0 7 (by decide) rfl bf_X0_52 rfl rfl rfl rfl rfl (Nat.le_of_ble_eq_true rfl) rfl dX0_take_61 ?_
  refine z_aload_n (pc := 64) (i := 0) C 0 dX0_take_64 rfl rfl ?_
  refine z_aload_n (pc := 65) (i := 1) C 1 dX0_take_65 rfl rfl ?_
  refine z_get (pc := 66) (ci := 0) C (.int (s1.1 8)) bi_X0 rfl 6 8 (by decide) rfl bf_X0_18 rfl rfl dX0_take_66 ?_
  refine z_put (pc := 69) (ci := 0) (ty := .int) (ws' := wX0 X.cs h (bb_sf (bb_sf (bb_sf (bb_sf s0 5 (s1.1 5)) 6 (s1.1 6)) 7 (s1.1 7)) 8 (s1.1 8)) ++ wX0 X.cs g s1) C bi_X0 tyX0_ok nmX0 rfl 0 8 (by decide) rfl bf_X0_18 rfl rfl rfl rfl rfl (Nat.le_of_ble_eq_true rfl) rfl dX0_take_69 ?_
  refine z_aload_n (pc := 72) (i := 1) C 1 dX0_take_72 rfl rfl ?_
  refine z_get (pc := 73) (ci := 0) C (.ref (g 10)) bi_X0 rfl 6 9 (by decide) rfl bf_X0_21 rfl rfl dX0_take_73 ?_
  refine z_iconst (pc := 76) C (0 : Int32) dX0_take_76 (by decide) ?_
  refine z_aload_n (pc := 77) (i := 0) C 0 dX0_take_77 rfl rfl ?_
  refine z_get (pc := 78) (ci := 0) C (.ref (h 10)) bi_X0 rfl 0 9 (by decide) rfl bf_X0_21 rfl rfl dX0_take_78 ?_
  refine z_iconst (pc := 81) C (0 : Int32) dX0_take_81 (by decide) ?_
  refine z_bipush (pc := 82) C (6 : Int32) dX0_take_82 (by decide) ?_
  refine z_copyi (pc := 84) (ws' := wX0 X.cs h (bb_sA (bb_sf (bb_sf (bb_sf (bb_sf s0 5 (s1.1 5)) 6 (s1.1 6)) 7 (s1.1 7)) 8 (s1.1 8)) 9 (va_cpy (s1.2.1 9) ((bb_sf (bb_sf (bb_sf (bb_sf s0 5 (s1.1 5)) 6 (s1.1 6)) 7 (s1.1 7)) 8 (s1.1 8)).2.1 9) 0 0 6)) ++ wX0 X.cs g s1) C (hR.le (by decide)) bm_X0_55 bl_ac_n bl_ac_s bl_System 7 1 0 0 (0) (0) (6) rfl rfl rfl rfl rfl (by decide) (by decide) (by decide) (by decide) (by decide) (by decide) (by decide) (by decide) (Nat.le_of_ble_eq_true rfl) rfl dX0_take_84 ?_
  exact B_X0_take_87 C hR hr h g R  hf
noncomputable def F_X0_take_0 (s0 : bb_O) (s1 : bb_O) : Option (bb_O × bb_O) := F_X0_take_40 (bb_sf (bb_sf (bb_sf (bb_sf (bb_sf s0 0 (s1.1 0)) 1 (s1.1 1)) 2 (s1.1 2)) 3 (s1.1 3)) 4 (s1.1 4)) s1
set_option maxHeartbeats 4000000 in
set_option maxRecDepth 100000 in
theorem B_X0_take_0 {X : bb_X} (C : bb_C X RX0 cX0_take 2) (hR : bb_r X 1) (hr : X.meth.sig.returnType = none) (h : Nat → Nat) (g : Nat → Nat) {z : (bb_O × bb_O)} (R : bb_R X none (wX0 X.cs h z.1 ++ wX0 X.cs g z.2)) {s0 : bb_O} {s1 : bb_O} (hf : F_X0_take_0 s0 s1 = some z) : bb_Z X 2 (wX0 X.cs h s0 ++ wX0 X.cs g s1) 0 [(0, .ref (h 0)), (1, .ref (g 0))] [] := by
  refine z_aload_n (pc := 0) (i := 0) C 0 dX0_take_0 rfl rfl ?_
  refine z_aload_n (pc := 1) (i := 1) C 1 dX0_take_1 rfl rfl ?_
  refine z_get (pc := 2) (ci := 0) C (.int (s1.1 0)) bi_X0 rfl 6 0 (by decide) rfl bf_X0_9 rfl rfl dX0_take_2 ?_
  refine z_put (pc := 5) (ci := 0) (ty := .int) (ws' := wX0 X.cs h (bb_sf s0 0 (s1.1 0)) ++ wX0 X.cs g s1) C bi_X0 tyX0_ok nmX0 rfl 0 0 (by decide) rfl bf_X0_9 rfl rfl rfl rfl rfl (Nat.le_of_ble_eq_true rfl) rfl dX0_take_5 ?_
  refine z_aload_n (pc := 8) (i := 0) C 0 dX0_take_8 rfl rfl ?_
  refine z_aload_n (pc := 9) (i := 1) C 1 dX0_take_9 rfl rfl ?_
  refine z_get (pc := 10) (ci := 0) C (.int (s1.1 1)) bi_X0 rfl 6 1 (by decide) rfl bf_X0_15 rfl rfl dX0_take_10 ?_
  refine z_put (pc := 13) (ci := 0) (ty := .int) (ws' := wX0 X.cs h (bb_sf (bb_sf s0 0 (s1.1 0)) 1 (s1.1 1)) ++ wX0 X.cs g s1) C bi_X0 tyX0_ok nmX0 rfl 0 1 (by decide) rfl bf_X0_15 rfl rfl rfl rfl rfl (Nat.le_of_ble_eq_true rfl) rfl dX0_take_13 ?_
  refine z_aload_n (pc := 16) (i := 0) C 0 dX0_take_16 rfl rfl ?_
  refine z_aload_n (pc := 17) (i := 1) C 1 dX0_take_17 rfl rfl ?_
  refine z_get (pc := 18) (ci := 0) C (.int (s1.1 2)) bi_X0 rfl 6 2 (by decide) rfl bf_X0_37 rfl rfl dX0_take_18 ?_
  refine z_put (pc := 21) (ci := 0) (ty := .int) (ws' := wX0 X.cs h (bb_sf (bb_sf (bb_sf s0 0 (s1.1 0)) 1 (s1.1 1)) 2 (s1.1 2)) ++ wX0 X.cs g s1) C bi_X0 tyX0_ok nmX0 rfl 0 2 (by decide) rfl bf_X0_37 rfl rfl rfl rfl rfl (Nat.le_of_ble_eq_true rfl) rfl dX0_take_21 ?_
  refine z_aload_n (pc := 24) (i := 0) C 0 dX0_take_24 rfl rfl ?_
  refine z_aload_n (pc := 25) (i := 1) C 1 dX0_take_25 rfl rfl ?_
  refine z_get (pc := 26) (ci := 0) C (.int (s1.1 3)) bi_X0 rfl 6 3 (by decide) rfl bf_X0_40 rfl rfl dX0_take_26 ?_
  refine z_put (pc := 29) (ci := 0) (ty := .int) (ws' := wX0 X.cs h (bb_sf (bb_sf (bb_sf (bb_sf s0 0 (s1.1 0)) 1 (s1.1 1)) 2 (s1.1 2)) 3 (s1.1 3)) ++ wX0 X.cs g s1) C bi_X0 tyX0_ok nmX0 rfl 0 3 (by decide) rfl bf_X0_40 rfl rfl rfl rfl rfl (Nat.le_of_ble_eq_true rfl) rfl dX0_take_29 ?_
  refine z_aload_n (pc := 32) (i := 0) C 0 dX0_take_32 rfl rfl ?_
  refine z_aload_n (pc := 33) (i := 1) C 1 dX0_take_33 rfl rfl ?_
  refine z_get (pc := 34) (ci := 0) C (.int (s1.1 4)) bi_X0 rfl 6 4 (by decide) rfl bf_X0_43 rfl rfl dX0_take_34 ?_
  refine z_put (pc := 37) (ci := 0) (ty := .int) (ws' := wX0 X.cs h (bb_sf (bb_sf (bb_sf (bb_sf (bb_sf s0 0 (s1.1 0)) 1 (s1.1 1)) 2 (s1.1 2)) 3 (s1.1 3)) 4 (s1.1 4)) ++ wX0 X.cs g s1) C bi_X0 tyX0_ok nmX0 rfl 0 4 (by decide) rfl bf_X0_43 rfl rfl rfl rfl rfl (Nat.le_of_ble_eq_true rfl) rfl dX0_take_37 ?_
  exact B_X0_take_40 C hR hr h g R  hf
theorem c_X0_take {l : Launch} {D : va_G} {cs : Nat → ClassId} (h : Nat → Nat) (g : Nat → Nat) {s0 : bb_O} {s1 : bb_O} {z : (bb_O × bb_O)} (hf : F_X0_take_0 s0 s1 = some z) : bb_M l yX0_take cX0_take 2 none 1 D cs [.ref (h 0), .ref (g 0)] none (wX0 cs h s0 ++ wX0 cs g s1) (wX0 cs h z.1 ++ wX0 cs g z.2) := bb_mg (by decide) rfl (Nat.le_of_ble_eq_true rfl) rfl (fun X hl hD hcs C hR hr R => by
  subst hl
  subst hD
  subst hcs
  exact B_X0_take_0 C hR hr h g R hf)
/-! X0_build: writes, level 1 -/
noncomputable def F_X0_build_25 (s0 : bb_O) : Option (bb_O) := some (bb_sf (bb_sf (bb_sf s0 5 ((0 : Int32))) 6 ((0 : Int32))) 7 ((0 : Int32)))
set_option maxHeartbeats 4000000 in
set_option maxRecDepth 100000 in
theorem B_X0_build_25 {X : bb_X} (C : bb_C X RX0 cX0_build 3) (hR : bb_r X 1) (hr : X.meth.sig.returnType = none) (h : Nat → Nat) {z : (bb_O)} (R : bb_R X none (wX0 X.cs h z)) {s0 : bb_O} (hf : F_X0_build_25 s0 = some z) : bb_Z X 3 (wX0 X.cs h s0) 25 [(0, .ref (h 0))] [] := by
  refine z_aload_n (pc := 25) (i := 0) C 0 dX0_build_25 rfl rfl ?_
  refine z_iconst (pc := 26) C (0 : Int32) dX0_build_26 (by decide) ?_
  refine z_put (pc := 27) (ci := 0) (ty := .int) (ws' := wX0 X.cs h (bb_sf s0 5 ((0 : Int32)))) C bi_X0 tyX0_ok nmX0 rfl 0 5 (by decide) rfl bf_X0_46 rfl rfl rfl rfl rfl (Nat.le_of_ble_eq_true rfl) rfl dX0_build_27 ?_
  refine z_aload_n (pc := 30) (i := 0) C 0 dX0_build_30 rfl rfl ?_
  refine z_iconst (pc := 31) C (0 : Int32) dX0_build_31 (by decide) ?_
  refine z_put (pc := 32) (ci := 0) (ty := .int) (ws' := wX0 X.cs h (bb_sf (bb_sf s0 5 ((0 : Int32))) 6 ((0 : Int32)))) C bi_X0 tyX0_ok nmX0 rfl 0 6 (by decide) rfl bf_X0_49 rfl rfl rfl rfl rfl (Nat.le_of_ble_eq_true rfl) rfl dX0_build_32 ?_
  refine z_aload_n (pc := 35) (i := 0) C 0 dX0_build_35 rfl rfl ?_
  refine z_iconst (pc := 36) C (0 : Int32) dX0_build_36 (by decide) ?_
  refine z_put (pc := 37) (ci := 0) (ty := .int) (ws' := wX0 X.cs h (bb_sf (bb_sf (bb_sf s0 5 ((0 : Int32))) 6 ((0 : Int32))) 7 ((0 : Int32)))) C bi_X0 tyX0_ok nmX0 rfl 0 7 (by decide) rfl bf_X0_52 rfl rfl rfl rfl rfl (Nat.le_of_ble_eq_true rfl) rfl dX0_build_37 ?_
  obtain rfl := Option.some.inj hf
  exact z_vret (pc := 40) C hr R dX0_build_40
noncomputable def F_X0_build_0 (s0 : bb_O) (x1 : Int32) (x2 : Int32) : Option (bb_O) := F_X0_build_25 (bb_sf (bb_sf (bb_sf (bb_sf (bb_sf s0 0 x1) 1 x2) 2 ((0 : Int32))) 3 ((0 : Int32))) 4 ((0 : Int32)))
set_option maxHeartbeats 4000000 in
set_option maxRecDepth 100000 in
theorem B_X0_build_0 {X : bb_X} (C : bb_C X RX0 cX0_build 3) (hR : bb_r X 1) (hr : X.meth.sig.returnType = none) (h : Nat → Nat) {z : (bb_O)} (R : bb_R X none (wX0 X.cs h z)) {s0 : bb_O} {x1 : Int32} {x2 : Int32} (hf : F_X0_build_0 s0 x1 x2 = some z) : bb_Z X 3 (wX0 X.cs h s0) 0 [(0, .ref (h 0)), (1, .int x1), (2, .int x2)] [] := by
  refine z_aload_n (pc := 0) (i := 0) C 0 dX0_build_0 rfl rfl ?_
  refine z_iload_n (pc := 1) (i := 1) C 1 dX0_build_1 rfl rfl ?_
  refine z_put (pc := 2) (ci := 0) (ty := .int) (ws' := wX0 X.cs h (bb_sf s0 0 x1)) C bi_X0 tyX0_ok nmX0 rfl 0 0 (by decide) rfl bf_X0_9 rfl rfl rfl rfl rfl (Nat.le_of_ble_eq_true rfl) rfl dX0_build_2 ?_
  refine z_aload_n (pc := 5) (i := 0) C 0 dX0_build_5 rfl rfl ?_
  refine z_iload_n (pc := 6) (i := 2) C 2 dX0_build_6 rfl rfl ?_
  refine z_put (pc := 7) (ci := 0) (ty := .int) (ws' := wX0 X.cs h (bb_sf (bb_sf s0 0 x1) 1 x2)) C bi_X0 tyX0_ok nmX0 rfl 0 1 (by decide) rfl bf_X0_15 rfl rfl rfl rfl rfl (Nat.le_of_ble_eq_true rfl) rfl dX0_build_7 ?_
  refine z_aload_n (pc := 10) (i := 0) C 0 dX0_build_10 rfl rfl ?_
  refine z_iconst (pc := 11) C (0 : Int32) dX0_build_11 (by decide) ?_
  refine z_put (pc := 12) (ci := 0) (ty := .int) (ws' := wX0 X.cs h (bb_sf (bb_sf (bb_sf s0 0 x1) 1 x2) 2 ((0 : Int32)))) C bi_X0 tyX0_ok nmX0 rfl 0 2 (by decide) rfl bf_X0_37 rfl rfl rfl rfl rfl (Nat.le_of_ble_eq_true rfl) rfl dX0_build_12 ?_
  refine z_aload_n (pc := 15) (i := 0) C 0 dX0_build_15 rfl rfl ?_
  refine z_iconst (pc := 16) C (0 : Int32) dX0_build_16 (by decide) ?_
  refine z_put (pc := 17) (ci := 0) (ty := .int) (ws' := wX0 X.cs h (bb_sf (bb_sf (bb_sf (bb_sf s0 0 x1) 1 x2) 2 ((0 : Int32))) 3 ((0 : Int32)))) C bi_X0 tyX0_ok nmX0 rfl 0 3 (by decide) rfl bf_X0_40 rfl rfl rfl rfl rfl (Nat.le_of_ble_eq_true rfl) rfl dX0_build_17 ?_
  refine z_aload_n (pc := 20) (i := 0) C 0 dX0_build_20 rfl rfl ?_
  refine z_iconst (pc := 21) C (0 : Int32) dX0_build_21 (by decide) ?_
  refine z_put (pc := 22) (ci := 0) (ty := .int) (ws' := wX0 X.cs h (bb_sf (bb_sf (bb_sf (bb_sf (bb_sf s0 0 x1) 1 x2) 2 ((0 : Int32))) 3 ((0 : Int32))) 4 ((0 : Int32)))) C bi_X0 tyX0_ok nmX0 rfl 0 4 (by decide) rfl bf_X0_43 rfl rfl rfl rfl rfl (Nat.le_of_ble_eq_true rfl) rfl dX0_build_22 ?_
  refine z_lv [0] rfl ?_
  exact B_X0_build_25 C hR hr h R  hf
theorem c_X0_build {l : Launch} {D : va_G} {cs : Nat → ClassId} (h : Nat → Nat) {s0 : bb_O} {x1 : Int32} {x2 : Int32} {z : (bb_O)} (hf : F_X0_build_0 s0 x1 x2 = some z) : bb_M l yX0_build cX0_build 3 none 1 D cs [.ref (h 0), .int x1, .int x2] none (wX0 cs h s0) (wX0 cs h z) := bb_mg (by decide) rfl (Nat.le_of_ble_eq_true rfl) rfl (fun X hl hD hcs C hR hr R => by
  subst hl
  subst hD
  subst hcs
  exact B_X0_build_0 C hR hr h R hf)
/-! X0_enter: writes, level 1 -/
noncomputable def F_X0_enter_18 (s0 : bb_O) : Option (Int32 × bb_O) := some ((-3 : Int32), s0)
set_option maxHeartbeats 4000000 in
set_option maxRecDepth 100000 in
theorem B_X0_enter_18 {X : bb_X} (C : bb_C X RX0 cX0_enter 6) (hR : bb_r X 1) (hr : X.meth.sig.returnType = (some .int)) (h : Nat → Nat) {z : (Int32 × bb_O)} (R : bb_R X (some (.int z.1)) (wX0 X.cs h z.2)) {s0 : bb_O} (hf : F_X0_enter_18 s0 = some z) : bb_Z X 6 (wX0 X.cs h s0) 18 [] [] := by
  refine z_bipush (pc := 18) C (-3 : Int32) dX0_enter_18 (by decide) ?_
  obtain rfl := Option.some.inj hf
  exact z_iret (pc := 20) C hr R dX0_enter_20
noncomputable def F_X0_enter_72 (s0 : bb_O) (x5 : Int32) : Option (Int32 × bb_O) := some (x5, s0)
set_option maxHeartbeats 4000000 in
set_option maxRecDepth 100000 in
theorem B_X0_enter_72 {X : bb_X} (C : bb_C X RX0 cX0_enter 6) (hR : bb_r X 1) (hr : X.meth.sig.returnType = (some .int)) (h : Nat → Nat) {z : (Int32 × bb_O)} (R : bb_R X (some (.int z.1)) (wX0 X.cs h z.2)) {s0 : bb_O} {x5 : Int32} (hf : F_X0_enter_72 s0 x5 = some z) : bb_Z X 6 (wX0 X.cs h s0) 72 [(5, .int x5)] [] := by
  refine z_iload (pc := 72) C 0 dX0_enter_72 rfl ?_
  obtain rfl := Option.some.inj hf
  exact z_iret (pc := 74) C hr R dX0_enter_74
noncomputable def F_X0_enter_54 (s0 : bb_O) (x5 : Int32) : Option (Int32 × bb_O) := bb_g (vp_in x5 6) (F_X0_enter_72 (bb_sf (bb_sA s0 13 (upd (s0.2.1 13) x5.toNatClampNeg ((0 : Int32)))) 2 (((bb_sA s0 13 (upd (s0.2.1 13) x5.toNatClampNeg ((0 : Int32)))).1 2) + ((1 : Int32)))) x5)
set_option maxHeartbeats 4000000 in
set_option maxRecDepth 100000 in
theorem B_X0_enter_54 {X : bb_X} (C : bb_C X RX0 cX0_enter 6) (hR : bb_r X 1) (hr : X.meth.sig.returnType = (some .int)) (h : Nat → Nat) {z : (Int32 × bb_O)} (R : bb_R X (some (.int z.1)) (wX0 X.cs h z.2)) {s0 : bb_O} {x5 : Int32} (hf : F_X0_enter_54 s0 x5 = some z) : bb_Z X 6 (wX0 X.cs h s0) 54 [(0, .ref (h 0)), (5, .int x5)] [] := by
  refine z_aload_n (pc := 54) (i := 0) C 0 dX0_enter_54 rfl rfl ?_
  refine z_get (pc := 55) (ci := 0) C (.ref (h 14)) bi_X0 rfl 0 13 (by decide) rfl bf_X0_34 rfl rfl dX0_enter_55 ?_
  refine z_iload (pc := 58) C 1 dX0_enter_58 rfl ?_
  refine z_iconst (pc := 60) C (0 : Int32) dX0_enter_60 (by decide) ?_
  obtain ⟨hv1, hf⟩ := bb_g_some hf
  refine z_iast (pc := 61) (ws' := wX0 X.cs h (bb_sA s0 13 (upd (s0.2.1 13) x5.toNatClampNeg ((0 : Int32))))) C 5 0 (x5.toNatClampNeg) rfl rfl hv1 rfl rfl dX0_enter_61 ?_
  refine z_aload_n (pc := 62) (i := 0) C 0 dX0_enter_62 rfl rfl ?_
  refine z_dup (pc := 63) C dX0_enter_63 rfl ?_
  refine z_get (pc := 64) (ci := 0) C (.int ((bb_sA s0 13 (upd (s0.2.1 13) x5.toNatClampNeg ((0 : Int32)))).1 2)) bi_X0 rfl 0 2 (by decide) rfl bf_X0_37 rfl rfl dX0_enter_64 ?_
  refine z_iconst (pc := 67) C (1 : Int32) dX0_enter_67 (by decide) ?_
  refine z_iadd (pc := 68) C dX0_enter_68 ?_
  refine z_put (pc := 69) (ci := 0) (ty := .int) (ws' := wX0 X.cs h (bb_sf (bb_sA s0 13 (upd (s0.2.1 13) x5.toNatClampNeg ((0 : Int32)))) 2 (((bb_sA s0 13 (upd (s0.2.1 13) x5.toNatClampNeg ((0 : Int32)))).1 2) + ((1 : Int32))))) C bi_X0 tyX0_ok nmX0 rfl 0 2 (by decide) rfl bf_X0_37 rfl rfl rfl rfl rfl (Nat.le_of_ble_eq_true rfl) rfl dX0_enter_69 ?_
  refine z_lv [1] rfl ?_
  exact B_X0_enter_72 C hR hr h R  hf
noncomputable def F_X0_enter_37 (s0 : bb_O) (x3 : Int32) (x4 : Int32) (x5 : Int32) : Option (Int32 × bb_O) := bb_g (vp_in x5 6) (bb_g (vp_in x5 6) (F_X0_enter_54 (bb_sA (bb_sA s0 11 (upd (s0.2.1 11) x5.toNatClampNeg x3)) 12 (upd ((bb_sA s0 11 (upd (s0.2.1 11) x5.toNatClampNeg x3)).2.1 12) x5.toNatClampNeg x4)) x5))
set_option maxHeartbeats 4000000 in
set_option maxRecDepth 100000 in
theorem B_X0_enter_37 {X : bb_X} (C : bb_C X RX0 cX0_enter 6) (hR : bb_r X 1) (hr : X.meth.sig.returnType = (some .int)) (h : Nat → Nat) {z : (Int32 × bb_O)} (R : bb_R X (some (.int z.1)) (wX0 X.cs h z.2)) {s0 : bb_O} {x3 : Int32} {x4 : Int32} {x5 : Int32} (hf : F_X0_enter_37 s0 x3 x4 x5 = some z) : bb_Z X 6 (wX0 X.cs h s0) 37 [(0, .ref (h 0)), (3, .int x3), (4, .int x4), (5, .int x5)] [] := by
  refine z_aload_n (pc := 37) (i := 0) C 0 dX0_enter_37 rfl rfl ?_
  refine z_get (pc := 38) (ci := 0) C (.ref (h 12)) bi_X0 rfl 0 11 (by decide) rfl bf_X0_28 rfl rfl dX0_enter_38 ?_
  refine z_iload (pc := 41) C 3 dX0_enter_41 rfl ?_
  refine z_iload_n (pc := 43) (i := 3) C 1 dX0_enter_43 rfl rfl ?_
  obtain ⟨hv1, hf⟩ := bb_g_some hf
  refine z_iast (pc := 44) (ws' := wX0 X.cs h (bb_sA s0 11 (upd (s0.2.1 11) x5.toNatClampNeg x3))) C 3 0 (x5.toNatClampNeg) rfl rfl hv1 rfl rfl dX0_enter_44 ?_
  refine z_aload_n (pc := 45) (i := 0) C 0 dX0_enter_45 rfl rfl ?_
  refine z_get (pc := 46) (ci := 0) C (.ref (h 13)) bi_X0 rfl 0 12 (by decide) rfl bf_X0_31 rfl rfl dX0_enter_46 ?_
  refine z_iload (pc := 49) C 3 dX0_enter_49 rfl ?_
  refine z_iload (pc := 51) C 2 dX0_enter_51 rfl ?_
  obtain ⟨hv2, hf⟩ := bb_g_some hf
  refine z_iast (pc := 53) (ws' := wX0 X.cs h (bb_sA (bb_sA s0 11 (upd (s0.2.1 11) x5.toNatClampNeg x3)) 12 (upd ((bb_sA s0 11 (upd (s0.2.1 11) x5.toNatClampNeg x3)).2.1 12) x5.toNatClampNeg x4))) C 4 0 (x5.toNatClampNeg) rfl rfl hv2 rfl rfl dX0_enter_53 ?_
  refine z_lv [0, 3] rfl ?_
  exact B_X0_enter_54 C hR hr h R  hf
noncomputable def F_X0_enter_0 (s0 : bb_O) (x1 : Int32) (x2 : Int32) (x3 : Int32) (x4 : Int32) : Option (Int32 × bb_O) := if (s0.1 2) < 0 then (F_X0_enter_18 s0) else (if (s0.1 2) < ((6 : Int32)) then (bb_g (vp_in (s0.1 2) 6) (bb_g (vp_in (s0.1 2) 6) (F_X0_enter_37 (bb_sA (bb_sA s0 9 (upd (s0.2.1 9) (s0.1 2).toNatClampNeg x1)) 10 (upd ((bb_sA s0 9 (upd (s0.2.1 9) (s0.1 2).toNatClampNeg x1)).2.1 10) (s0.1 2).toNatClampNeg x2)) x3 x4 (s0.1 2)))) else (F_X0_enter_18 s0))
set_option maxHeartbeats 4000000 in
set_option maxRecDepth 100000 in
theorem B_X0_enter_0 {X : bb_X} (C : bb_C X RX0 cX0_enter 6) (hR : bb_r X 1) (hr : X.meth.sig.returnType = (some .int)) (h : Nat → Nat) {z : (Int32 × bb_O)} (R : bb_R X (some (.int z.1)) (wX0 X.cs h z.2)) {s0 : bb_O} {x1 : Int32} {x2 : Int32} {x3 : Int32} {x4 : Int32} (hf : F_X0_enter_0 s0 x1 x2 x3 x4 = some z) : bb_Z X 6 (wX0 X.cs h s0) 0 [(0, .ref (h 0)), (1, .int x1), (2, .int x2), (3, .int x3), (4, .int x4)] [] := by
  refine z_aload_n (pc := 0) (i := 0) C 0 dX0_enter_0 rfl rfl ?_
  refine z_get (pc := 1) (ci := 0) C (.int (s0.1 2)) bi_X0 rfl 0 2 (by decide) rfl bf_X0_37 rfl rfl dX0_enter_1 ?_
  refine z_istore (pc := 4) (lv' := [(5, .int (s0.1 2)), (0, .ref (h 0)), (1, .int x1), (2, .int x2), (3, .int x3), (4, .int x4)]) C dX0_enter_4 (by decide) rfl ?_
  refine z_iload (pc := 6) C 0 dX0_enter_6 rfl ?_
  refine z_if_lt (pc := 8) C 18 dX0_enter_8 (by decide) (fun hc1 => ?_) (fun hc1 => ?_)
  · have hf := bb_t hf hc1
    refine z_lv [] rfl ?_
    exact B_X0_enter_18 C hR hr h R  hf
  · have hf := bb_e hf hc1
    refine z_iload (pc := 11) C 0 dX0_enter_11 rfl ?_
    refine z_bipush (pc := 13) C (6 : Int32) dX0_enter_13 (by decide) ?_
    refine z_icmp_lt (pc := 15) C 21 dX0_enter_15 (by decide) (fun hc2 => ?_) (fun hc2 => ?_)
    · have hf := bb_t hf hc2
      refine z_aload_n (pc := 21) (i := 0) C 1 dX0_enter_21 rfl rfl ?_
      refine z_get (pc := 22) (ci := 0) C (.ref (h 10)) bi_X0 rfl 0 9 (by decide) rfl bf_X0_21 rfl rfl dX0_enter_22 ?_
      refine z_iload (pc := 25) C 0 dX0_enter_25 rfl ?_
      refine z_iload_n (pc := 27) (i := 1) C 2 dX0_enter_27 rfl rfl ?_
      obtain ⟨hv3, hf⟩ := bb_g_some hf
      refine z_iast (pc := 28) (ws' := wX0 X.cs h (bb_sA s0 9 (upd (s0.2.1 9) (s0.1 2).toNatClampNeg x1))) C 1 0 ((s0.1 2).toNatClampNeg) rfl rfl hv3 rfl rfl dX0_enter_28 ?_
      refine z_aload_n (pc := 29) (i := 0) C 1 dX0_enter_29 rfl rfl ?_
      refine z_get (pc := 30) (ci := 0) C (.ref (h 11)) bi_X0 rfl 0 10 (by decide) rfl bf_X0_25 rfl rfl dX0_enter_30 ?_
      refine z_iload (pc := 33) C 0 dX0_enter_33 rfl ?_
      refine z_iload_n (pc := 35) (i := 2) C 3 dX0_enter_35 rfl rfl ?_
      obtain ⟨hv4, hf⟩ := bb_g_some hf
      refine z_iast (pc := 36) (ws' := wX0 X.cs h (bb_sA (bb_sA s0 9 (upd (s0.2.1 9) (s0.1 2).toNatClampNeg x1)) 10 (upd ((bb_sA s0 9 (upd (s0.2.1 9) (s0.1 2).toNatClampNeg x1)).2.1 10) (s0.1 2).toNatClampNeg x2))) C 2 0 ((s0.1 2).toNatClampNeg) rfl rfl hv4 rfl rfl dX0_enter_36 ?_
      refine z_lv [1, 4, 5, 0] rfl ?_
      exact B_X0_enter_37 C hR hr h R  hf
    · have hf := bb_e hf hc2
      refine z_lv [] rfl ?_
      exact B_X0_enter_18 C hR hr h R  hf
theorem c_X0_enter {l : Launch} {D : va_G} {cs : Nat → ClassId} (h : Nat → Nat) {s0 : bb_O} {x1 : Int32} {x2 : Int32} {x3 : Int32} {x4 : Int32} {z : (Int32 × bb_O)} (hf : F_X0_enter_0 s0 x1 x2 x3 x4 = some z) : bb_M l yX0_enter cX0_enter 6 (some .int) 1 D cs [.ref (h 0), .int x1, .int x2, .int x3, .int x4] (some (.int z.1)) (wX0 cs h s0) (wX0 cs h z.2) := bb_mg (by decide) rfl (Nat.le_of_ble_eq_true rfl) rfl (fun X hl hD hcs C hR hr R => by
  subst hl
  subst hD
  subst hcs
  exact B_X0_enter_0 C hR hr h R hf)
/-! X0_cells: reads, level 1 -/
noncomputable def F_X0_cells_0 (s0 : bb_O) : Option Int32 := some ((s0.1 0) * (s0.1 1))
set_option maxHeartbeats 4000000 in
set_option maxRecDepth 100000 in
theorem B_X0_cells_0 {X : bb_X} (C : bb_C X RX0 cX0_cells 1) (hR : bb_r X 1) (hr : X.meth.sig.returnType = (some .int)) (h : Nat → Nat) {z : Int32} {s0 : bb_O} (R : bb_R X (some (.int z)) (wX0 X.cs h s0))  (hf : F_X0_cells_0 s0 = some z) : bb_Z X 1 (wX0 X.cs h s0) 0 [(0, .ref (h 0))] [] := by
  refine z_aload_n (pc := 0) (i := 0) C 0 dX0_cells_0 rfl rfl ?_
  refine z_get (pc := 1) (ci := 0) C (.int (s0.1 0)) bi_X0 rfl 0 0 (by decide) rfl bf_X0_9 rfl rfl dX0_cells_1 ?_
  refine z_aload_n (pc := 4) (i := 0) C 0 dX0_cells_4 rfl rfl ?_
  refine z_get (pc := 5) (ci := 0) C (.int (s0.1 1)) bi_X0 rfl 0 1 (by decide) rfl bf_X0_15 rfl rfl dX0_cells_5 ?_
  refine z_imul (pc := 8) C dX0_cells_8 ?_
  obtain rfl := Option.some.inj hf
  exact z_iret (pc := 9) C hr R dX0_cells_9
theorem c_X0_cells {l : Launch} {D : va_G} {cs : Nat → ClassId} (h : Nat → Nat) {s0 : bb_O} {z : Int32} (hf : F_X0_cells_0 s0 = some z) : bb_M l yX0_cells cX0_cells 1 (some .int) 1 D cs [.ref (h 0)] (some (.int z)) (wX0 cs h s0) (wX0 cs h s0) := bb_mg (by decide) rfl (Nat.le_of_ble_eq_true rfl) rfl (fun X hl hD hcs C hR hr R => by
  subst hl
  subst hD
  subst hcs
  exact B_X0_cells_0 C hR hr h R hf)
/-! X0_isFree: reads, level 1 -/
noncomputable def F_X0_isFree_16 (s0 : bb_O) (y0 : Int32) : Option Int32 := bb_g (bb_z y0) (some y0)
set_option maxHeartbeats 4000000 in
set_option maxRecDepth 100000 in
theorem B_X0_isFree_16 {X : bb_X} (C : bb_C X RX0 cX0_isFree 2) (hR : bb_r X 1) (hr : X.meth.sig.returnType = (some .boolean)) (h : Nat → Nat) {z : Int32} {s0 : bb_O} (R : bb_R X (some (.int z)) (wX0 X.cs h s0)) {y0 : Int32} (hf : F_X0_isFree_16 s0 y0 = some z) : bb_Z X 2 (wX0 X.cs h s0) 16 [] [.int y0] := by
  obtain ⟨hz1, hf⟩ := bb_g_some hf
  obtain rfl := Option.some.inj hf
  exact z_zret (pc := 16) C hr (bb_nz hz1) R dX0_isFree_16
noncomputable def F_X0_isFree_0 (s0 : bb_O) (x1 : Int32) : Option Int32 := if ((s0.1 4) &&& (((1 : Int32)) <<< (x1 &&& 31))) = 0 then (F_X0_isFree_16 s0 ((1 : Int32))) else (F_X0_isFree_16 s0 ((0 : Int32)))
set_option maxHeartbeats 4000000 in
set_option maxRecDepth 100000 in
theorem B_X0_isFree_0 {X : bb_X} (C : bb_C X RX0 cX0_isFree 2) (hR : bb_r X 1) (hr : X.meth.sig.returnType = (some .boolean)) (h : Nat → Nat) {z : Int32} {s0 : bb_O} (R : bb_R X (some (.int z)) (wX0 X.cs h s0)) {x1 : Int32} (hf : F_X0_isFree_0 s0 x1 = some z) : bb_Z X 2 (wX0 X.cs h s0) 0 [(0, .ref (h 0)), (1, .int x1)] [] := by
  refine z_aload_n (pc := 0) (i := 0) C 0 dX0_isFree_0 rfl rfl ?_
  refine z_get (pc := 1) (ci := 0) C (.int (s0.1 4)) bi_X0 rfl 0 4 (by decide) rfl bf_X0_43 rfl rfl dX0_isFree_1 ?_
  refine z_iconst (pc := 4) C (1 : Int32) dX0_isFree_4 (by decide) ?_
  refine z_iload_n (pc := 5) (i := 1) C 1 dX0_isFree_5 rfl rfl ?_
  refine z_ishl (pc := 6) C dX0_isFree_6 ?_
  refine z_iand (pc := 7) C dX0_isFree_7 ?_
  refine z_if_ne (pc := 8) C 15 dX0_isFree_8 (by decide) (fun hc1 => ?_) (fun hc1 => ?_)
  · have hf := bb_e hf hc1
    refine z_iconst (pc := 15) C (0 : Int32) dX0_isFree_15 (by decide) ?_
    refine z_lv [] rfl ?_
    exact B_X0_isFree_16 C hR hr h R  hf
  · have hf := bb_t hf hc1
    refine z_iconst (pc := 11) C (1 : Int32) dX0_isFree_11 (by decide) ?_
    refine z_goto (pc := 12) C 16 dX0_isFree_12 (by decide) ?_
    refine z_lv [] rfl ?_
    exact B_X0_isFree_16 C hR hr h R  hf
theorem c_X0_isFree {l : Launch} {D : va_G} {cs : Nat → ClassId} (h : Nat → Nat) {s0 : bb_O} {x1 : Int32} {z : Int32} (hf : F_X0_isFree_0 s0 x1 = some z) : bb_M l yX0_isFree cX0_isFree 2 (some .boolean) 1 D cs [.ref (h 0), .int x1] (some (.int z)) (wX0 cs h s0) (wX0 cs h s0) := bb_mg (by decide) rfl (Nat.le_of_ble_eq_true rfl) rfl (fun X hl hD hcs C hR hr R => by
  subst hl
  subst hD
  subst hcs
  exact B_X0_isFree_0 C hR hr h R hf)
/-! X0_rowOf: reads, level 1 -/
noncomputable def F_X0_rowOf_18 (s0 : bb_O) (y0 : Int32) : Option Int32 := some y0
set_option maxHeartbeats 4000000 in
set_option maxRecDepth 100000 in
theorem B_X0_rowOf_18 {X : bb_X} (C : bb_C X RX0 cX0_rowOf 2) (hR : bb_r X 1) (hr : X.meth.sig.returnType = (some .int)) (h : Nat → Nat) {z : Int32} {s0 : bb_O} (R : bb_R X (some (.int z)) (wX0 X.cs h s0)) {y0 : Int32} (hf : F_X0_rowOf_18 s0 y0 = some z) : bb_Z X 2 (wX0 X.cs h s0) 18 [] [.int y0] := by
  obtain rfl := Option.some.inj hf
  exact z_iret (pc := 18) C hr R dX0_rowOf_18
noncomputable def F_X0_rowOf_0 (s0 : bb_O) (x1 : Int32) : Option Int32 := if ((2 : Int32)) ≤ (s0.1 1) then (bb_g (¬ (s0.1 1) = 0) (F_X0_rowOf_18 s0 (x1 / (s0.1 1)))) else (F_X0_rowOf_18 s0 ((0 : Int32)))
set_option maxHeartbeats 4000000 in
set_option maxRecDepth 100000 in
theorem B_X0_rowOf_0 {X : bb_X} (C : bb_C X RX0 cX0_rowOf 2) (hR : bb_r X 1) (hr : X.meth.sig.returnType = (some .int)) (h : Nat → Nat) {z : Int32} {s0 : bb_O} (R : bb_R X (some (.int z)) (wX0 X.cs h s0)) {x1 : Int32} (hf : F_X0_rowOf_0 s0 x1 = some z) : bb_Z X 2 (wX0 X.cs h s0) 0 [(0, .ref (h 0)), (1, .int x1)] [] := by
  refine z_aload_n (pc := 0) (i := 0) C 0 dX0_rowOf_0 rfl rfl ?_
  refine z_get (pc := 1) (ci := 0) C (.int (s0.1 1)) bi_X0 rfl 0 1 (by decide) rfl bf_X0_15 rfl rfl dX0_rowOf_1 ?_
  refine z_iconst (pc := 4) C (2 : Int32) dX0_rowOf_4 (by decide) ?_
  refine z_icmp_ge (pc := 5) C 12 dX0_rowOf_5 (by decide) (fun hc1 => ?_) (fun hc1 => ?_)
  · have hf := bb_t hf hc1
    refine z_iload_n (pc := 12) (i := 1) C 1 dX0_rowOf_12 rfl rfl ?_
    refine z_aload_n (pc := 13) (i := 0) C 0 dX0_rowOf_13 rfl rfl ?_
    refine z_get (pc := 14) (ci := 0) C (.int (s0.1 1)) bi_X0 rfl 0 1 (by decide) rfl bf_X0_15 rfl rfl dX0_rowOf_14 ?_
    obtain ⟨hn2, hf⟩ := bb_g_some hf
    refine z_idiv (pc := 17) C dX0_rowOf_17 hn2 ?_
    refine z_lv [] rfl ?_
    exact B_X0_rowOf_18 C hR hr h R  hf
  · have hf := bb_e hf hc1
    refine z_iconst (pc := 8) C (0 : Int32) dX0_rowOf_8 (by decide) ?_
    refine z_goto (pc := 9) C 18 dX0_rowOf_9 (by decide) ?_
    refine z_lv [] rfl ?_
    exact B_X0_rowOf_18 C hR hr h R  hf
theorem c_X0_rowOf {l : Launch} {D : va_G} {cs : Nat → ClassId} (h : Nat → Nat) {s0 : bb_O} {x1 : Int32} {z : Int32} (hf : F_X0_rowOf_0 s0 x1 = some z) : bb_M l yX0_rowOf cX0_rowOf 2 (some .int) 1 D cs [.ref (h 0), .int x1] (some (.int z)) (wX0 cs h s0) (wX0 cs h s0) := bb_mg (by decide) rfl (Nat.le_of_ble_eq_true rfl) rfl (fun X hl hD hcs C hR hr R => by
  subst hl
  subst hD
  subst hcs
  exact B_X0_rowOf_0 C hR hr h R hf)
/-! X0_columnOf: reads, level 1 -/
noncomputable def F_X0_columnOf_18 (s0 : bb_O) (y0 : Int32) : Option Int32 := some y0
set_option maxHeartbeats 4000000 in
set_option maxRecDepth 100000 in
theorem B_X0_columnOf_18 {X : bb_X} (C : bb_C X RX0 cX0_columnOf 2) (hR : bb_r X 1) (hr : X.meth.sig.returnType = (some .int)) (h : Nat → Nat) {z : Int32} {s0 : bb_O} (R : bb_R X (some (.int z)) (wX0 X.cs h s0)) {y0 : Int32} (hf : F_X0_columnOf_18 s0 y0 = some z) : bb_Z X 2 (wX0 X.cs h s0) 18 [] [.int y0] := by
  obtain rfl := Option.some.inj hf
  exact z_iret (pc := 18) C hr R dX0_columnOf_18
noncomputable def F_X0_columnOf_0 (s0 : bb_O) (x1 : Int32) : Option Int32 := if ((2 : Int32)) ≤ (s0.1 1) then (bb_g (¬ (s0.1 1) = 0) (F_X0_columnOf_18 s0 (x1 % (s0.1 1)))) else (F_X0_columnOf_18 s0 ((0 : Int32)))
set_option maxHeartbeats 4000000 in
set_option maxRecDepth 100000 in
theorem B_X0_columnOf_0 {X : bb_X} (C : bb_C X RX0 cX0_columnOf 2) (hR : bb_r X 1) (hr : X.meth.sig.returnType = (some .int)) (h : Nat → Nat) {z : Int32} {s0 : bb_O} (R : bb_R X (some (.int z)) (wX0 X.cs h s0)) {x1 : Int32} (hf : F_X0_columnOf_0 s0 x1 = some z) : bb_Z X 2 (wX0 X.cs h s0) 0 [(0, .ref (h 0)), (1, .int x1)] [] := by
  refine z_aload_n (pc := 0) (i := 0) C 0 dX0_columnOf_0 rfl rfl ?_
  refine z_get (pc := 1) (ci := 0) C (.int (s0.1 1)) bi_X0 rfl 0 1 (by decide) rfl bf_X0_15 rfl rfl dX0_columnOf_1 ?_
  refine z_iconst (pc := 4) C (2 : Int32) dX0_columnOf_4 (by decide) ?_
  refine z_icmp_ge (pc := 5) C 12 dX0_columnOf_5 (by decide) (fun hc1 => ?_) (fun hc1 => ?_)
  · have hf := bb_t hf hc1
    refine z_iload_n (pc := 12) (i := 1) C 1 dX0_columnOf_12 rfl rfl ?_
    refine z_aload_n (pc := 13) (i := 0) C 0 dX0_columnOf_13 rfl rfl ?_
    refine z_get (pc := 14) (ci := 0) C (.int (s0.1 1)) bi_X0 rfl 0 1 (by decide) rfl bf_X0_15 rfl rfl dX0_columnOf_14 ?_
    obtain ⟨hn2, hf⟩ := bb_g_some hf
    refine z_irem (pc := 17) C dX0_columnOf_17 hn2 ?_
    refine z_lv [] rfl ?_
    exact B_X0_columnOf_18 C hR hr h R  hf
  · have hf := bb_e hf hc1
    refine z_iconst (pc := 8) C (0 : Int32) dX0_columnOf_8 (by decide) ?_
    refine z_goto (pc := 9) C 18 dX0_columnOf_9 (by decide) ?_
    refine z_lv [] rfl ?_
    exact B_X0_columnOf_18 C hR hr h R  hf
theorem c_X0_columnOf {l : Launch} {D : va_G} {cs : Nat → ClassId} (h : Nat → Nat) {s0 : bb_O} {x1 : Int32} {z : Int32} (hf : F_X0_columnOf_0 s0 x1 = some z) : bb_M l yX0_columnOf cX0_columnOf 2 (some .int) 1 D cs [.ref (h 0), .int x1] (some (.int z)) (wX0 cs h s0) (wX0 cs h s0) := bb_mg (by decide) rfl (Nat.le_of_ble_eq_true rfl) rfl (fun X hl hD hcs C hR hr R => by
  subst hl
  subst hD
  subst hcs
  exact B_X0_columnOf_0 C hR hr h R hf)
/-! X0_far: reads, level 2 -/
noncomputable def F_X0_far_0 (s0 : bb_O) (x1 : Int32) : Option Int32 := bb_g (vp_in x1 6) ((F_X0_rowOf_0 s0 (s0.2.1 10 x1.toNatClampNeg)).bind (fun q2 => (F_X0_rowOf_0 s0 (s0.1 3)).bind (fun q3 => bb_g (vp_in x1 6) ((F_X0_columnOf_0 s0 (s0.2.1 10 x1.toNatClampNeg)).bind (fun q5 => (F_X0_columnOf_0 s0 (s0.1 3)).bind (fun q6 => some ((if 0 ≤ (q2 - q3) then (q2 - q3) else 0 - (q2 - q3)) + (if 0 ≤ (q5 - q6) then (q5 - q6) else 0 - (q5 - q6)))))))))
set_option maxHeartbeats 4000000 in
set_option maxRecDepth 100000 in
theorem B_X0_far_0 {X : bb_X} (C : bb_C X RX0 cX0_far 2) (hR : bb_r X 2) (hr : X.meth.sig.returnType = (some .int)) (h : Nat → Nat) {z : Int32} {s0 : bb_O} (R : bb_R X (some (.int z)) (wX0 X.cs h s0)) {x1 : Int32} (hf : F_X0_far_0 s0 x1 = some z) : bb_Z X 2 (wX0 X.cs h s0) 0 [(0, .ref (h 0)), (1, .int x1)] [] := by
  refine z_aload_n (pc := 0) (i := 0) C 0 dX0_far_0 rfl rfl ?_
  refine z_aload_n (pc := 1) (i := 0) C 0 dX0_far_1 rfl rfl ?_
  refine z_get (pc := 2) (ci := 0) C (.ref (h 11)) bi_X0 rfl 0 10 (by decide) rfl bf_X0_25 rfl rfl dX0_far_2 ?_
  refine z_iload_n (pc := 5) (i := 1) C 1 dX0_far_5 rfl rfl ?_
  obtain ⟨hv1, hf⟩ := bb_g_some hf
  refine z_iald (pc := 6) C 2 0 (x1.toNatClampNeg) rfl rfl hv1 rfl dX0_far_6 ?_
  obtain ⟨q2, hq2, hf⟩ := bb_b_some hf
  refine z_callVi (pc := 7) (ci := 0) (q0 := 0) (As := [.int (s0.2.1 10 x1.toNatClampNeg)]) (rest := []) C (hR.le (by decide)) (c_X0_rowOf h hq2) (bb_cut_self _ _) bv_X0_rowOf bm_X0_61 rfl rfl rfl rfl (Nat.le_of_ble_eq_true rfl) dX0_far_7 ?_
  refine z_aload_n (pc := 10) (i := 0) C 0 dX0_far_10 rfl rfl ?_
  refine z_aload_n (pc := 11) (i := 0) C 0 dX0_far_11 rfl rfl ?_
  refine z_get (pc := 12) (ci := 0) C (.int (s0.1 3)) bi_X0 rfl 0 3 (by decide) rfl bf_X0_40 rfl rfl dX0_far_12 ?_
  obtain ⟨q3, hq3, hf⟩ := bb_b_some hf
  refine z_callVi (pc := 15) (ci := 0) (q0 := 0) (As := [.int (s0.1 3)]) (rest := [.int q2]) C (hR.le (by decide)) (c_X0_rowOf h hq3) (bb_cut_self _ _) bv_X0_rowOf bm_X0_61 rfl rfl rfl rfl (Nat.le_of_ble_eq_true rfl) dX0_far_15 ?_
  refine z_isub (pc := 18) C dX0_far_18 ?_
  refine z_mabs (pc := 19) C (hR.le (by decide)) bm_X0_65 bl_abs_s bl_Math bl_abs_c (Nat.le_of_ble_eq_true rfl) dX0_far_19 ?_
  refine z_aload_n (pc := 22) (i := 0) C 0 dX0_far_22 rfl rfl ?_
  refine z_aload_n (pc := 23) (i := 0) C 0 dX0_far_23 rfl rfl ?_
  refine z_get (pc := 24) (ci := 0) C (.ref (h 11)) bi_X0 rfl 0 10 (by decide) rfl bf_X0_25 rfl rfl dX0_far_24 ?_
  refine z_iload_n (pc := 27) (i := 1) C 1 dX0_far_27 rfl rfl ?_
  obtain ⟨hv4, hf⟩ := bb_g_some hf
  refine z_iald (pc := 28) C 2 0 (x1.toNatClampNeg) rfl rfl hv4 rfl dX0_far_28 ?_
  obtain ⟨q5, hq5, hf⟩ := bb_b_some hf
  refine z_callVi (pc := 29) (ci := 0) (q0 := 0) (As := [.int (s0.2.1 10 x1.toNatClampNeg)]) (rest := [.int (if 0 ≤ (q2 - q3) then (q2 - q3) else 0 - (q2 - q3))]) C (hR.le (by decide)) (c_X0_columnOf h hq5) (bb_cut_self _ _) bv_X0_columnOf bm_X0_70 rfl rfl rfl rfl (Nat.le_of_ble_eq_true rfl) dX0_far_29 ?_
  refine z_aload_n (pc := 32) (i := 0) C 0 dX0_far_32 rfl rfl ?_
  refine z_aload_n (pc := 33) (i := 0) C 0 dX0_far_33 rfl rfl ?_
  refine z_get (pc := 34) (ci := 0) C (.int (s0.1 3)) bi_X0 rfl 0 3 (by decide) rfl bf_X0_40 rfl rfl dX0_far_34 ?_
  obtain ⟨q6, hq6, hf⟩ := bb_b_some hf
  refine z_callVi (pc := 37) (ci := 0) (q0 := 0) (As := [.int (s0.1 3)]) (rest := [.int q5, .int (if 0 ≤ (q2 - q3) then (q2 - q3) else 0 - (q2 - q3))]) C (hR.le (by decide)) (c_X0_columnOf h hq6) (bb_cut_self _ _) bv_X0_columnOf bm_X0_70 rfl rfl rfl rfl (Nat.le_of_ble_eq_true rfl) dX0_far_37 ?_
  refine z_isub (pc := 40) C dX0_far_40 ?_
  refine z_mabs (pc := 41) C (hR.le (by decide)) bm_X0_65 bl_abs_s bl_Math bl_abs_c (Nat.le_of_ble_eq_true rfl) dX0_far_41 ?_
  refine z_iadd (pc := 44) C dX0_far_44 ?_
  obtain rfl := Option.some.inj hf
  exact z_iret (pc := 45) C hr R dX0_far_45
theorem c_X0_far {l : Launch} {D : va_G} {cs : Nat → ClassId} (h : Nat → Nat) {s0 : bb_O} {x1 : Int32} {z : Int32} (hf : F_X0_far_0 s0 x1 = some z) : bb_M l yX0_far cX0_far 2 (some .int) 2 D cs [.ref (h 0), .int x1] (some (.int z)) (wX0 cs h s0) (wX0 cs h s0) := bb_mg (by decide) rfl (Nat.le_of_ble_eq_true rfl) rfl (fun X hl hD hcs C hR hr R => by
  subst hl
  subst hD
  subst hcs
  exact B_X0_far_0 C hR hr h R hf)
/-! X0_loud: reads, level 3 -/
noncomputable def F_X0_loud_85 (s0 : bb_O) (y0 : Int32) : Option Int32 := some y0
set_option maxHeartbeats 4000000 in
set_option maxRecDepth 100000 in
theorem B_X0_loud_85 {X : bb_X} (C : bb_C X RX0 cX0_loud 6) (hR : bb_r X 3) (hr : X.meth.sig.returnType = (some .int)) (h : Nat → Nat) {z : Int32} {s0 : bb_O} (R : bb_R X (some (.int z)) (wX0 X.cs h s0)) {y0 : Int32} (hf : F_X0_loud_85 s0 y0 = some z) : bb_Z X 6 (wX0 X.cs h s0) 85 [] [.int y0] := by
  obtain rfl := Option.some.inj hf
  exact z_iret (pc := 85) C hr R dX0_loud_85
noncomputable def F_X0_loud_100 (s0 : bb_O) (y0 : Int32) : Option Int32 := some y0
set_option maxHeartbeats 4000000 in
set_option maxRecDepth 100000 in
theorem B_X0_loud_100 {X : bb_X} (C : bb_C X RX0 cX0_loud 6) (hR : bb_r X 3) (hr : X.meth.sig.returnType = (some .int)) (h : Nat → Nat) {z : Int32} {s0 : bb_O} (R : bb_R X (some (.int z)) (wX0 X.cs h s0)) {y0 : Int32} (hf : F_X0_loud_100 s0 y0 = some z) : bb_Z X 6 (wX0 X.cs h s0) 100 [] [.int y0] := by
  obtain rfl := Option.some.inj hf
  exact z_iret (pc := 100) C hr R dX0_loud_100
noncomputable def F_X0_loud_19 (s0 : bb_O) (x1 : Int32) (x2 : Int32) (x3 : Int32) : Option Int32 := bb_g (vp_in x1 6) (if (s0.2.1 9 x1.toNatClampNeg) = 1 then (some (x3 / ((2 : Int32)))) else (if (s0.2.1 9 x1.toNatClampNeg) = 2 then (some (x3 + ((4 : Int32)))) else (if (s0.2.1 9 x1.toNatClampNeg) = 3 then (if ((s0.1 5) % ((2 : Int32))) = 0 then (F_X0_loud_85 s0 ((0 : Int32))) else (F_X0_loud_85 s0 (x3 / ((2 : Int32))))) else (if (s0.2.1 9 x1.toNatClampNeg) = 4 then (if ((2 : Int32)) < x2 then (F_X0_loud_100 s0 (x3 + ((4 : Int32)))) else (F_X0_loud_100 s0 (((2 : Int32)) * (x3 + ((4 : Int32)))))) else (some x3)))))
set_option maxHeartbeats 4000000 in
set_option maxRecDepth 100000 in
theorem B_X0_loud_19 {X : bb_X} (C : bb_C X RX0 cX0_loud 6) (hR : bb_r X 3) (hr : X.meth.sig.returnType = (some .int)) (h : Nat → Nat) {z : Int32} {s0 : bb_O} (R : bb_R X (some (.int z)) (wX0 X.cs h s0)) {x1 : Int32} {x2 : Int32} {x3 : Int32} (hf : F_X0_loud_19 s0 x1 x2 x3 = some z) : bb_Z X 6 (wX0 X.cs h s0) 19 [(0, .ref (h 0)), (1, .int x1), (2, .int x2), (3, .int x3)] [] := by
  refine z_iload_n (pc := 19) (i := 3) C 3 dX0_loud_19 rfl rfl ?_
  refine z_iconst (pc := 20) C (2 : Int32) dX0_loud_20 (by decide) ?_
  refine z_idiv (pc := 21) C dX0_loud_21 (by decide) ?_
  refine z_istore (pc := 22) (lv' := [(4, .int (x3 / ((2 : Int32)))), (0, .ref (h 0)), (1, .int x1), (2, .int x2), (3, .int x3)]) C dX0_loud_22 (by decide) rfl ?_
  refine z_iload_n (pc := 24) (i := 3) C 4 dX0_loud_24 rfl rfl ?_
  refine z_iconst (pc := 25) C (4 : Int32) dX0_loud_25 (by decide) ?_
  refine z_iadd (pc := 26) C dX0_loud_26 ?_
  refine z_istore (pc := 27) (lv' := [(5, .int (x3 + ((4 : Int32)))), (4, .int (x3 / ((2 : Int32)))), (0, .ref (h 0)), (1, .int x1), (2, .int x2), (3, .int x3)]) C dX0_loud_27 (by decide) rfl ?_
  refine z_aload_n (pc := 29) (i := 0) C 2 dX0_loud_29 rfl rfl ?_
  refine z_get (pc := 30) (ci := 0) C (.ref (h 10)) bi_X0 rfl 0 9 (by decide) rfl bf_X0_21 rfl rfl dX0_loud_30 ?_
  refine z_iload_n (pc := 33) (i := 1) C 3 dX0_loud_33 rfl rfl ?_
  obtain ⟨hv1, hf⟩ := bb_g_some hf
  refine z_iald (pc := 34) C 1 0 (x1.toNatClampNeg) rfl rfl hv1 rfl dX0_loud_34 ?_
  by_cases hc2 : (s0.2.1 9 x1.toNatClampNeg) = 1
  · have hf := bb_t hf hc2
    refine z_tabIn (pc := 35) C 64 (1 : Int32) dX0_loud_35 hc2 (by decide) (by decide) rfl (by decide) ?_
    refine z_iload (pc := 64) C 1 dX0_loud_64 rfl ?_
    obtain rfl := Option.some.inj hf
    exact z_iret (pc := 66) C hr R dX0_loud_66
  · have hf := bb_e hf hc2
    by_cases hc3 : (s0.2.1 9 x1.toNatClampNeg) = 2
    · have hf := bb_t hf hc3
      refine z_tabIn (pc := 35) C 67 (2 : Int32) dX0_loud_35 hc3 (by decide) (by decide) rfl (by decide) ?_
      refine z_iload (pc := 67) C 0 dX0_loud_67 rfl ?_
      obtain rfl := Option.some.inj hf
      exact z_iret (pc := 69) C hr R dX0_loud_69
    · have hf := bb_e hf hc3
      by_cases hc4 : (s0.2.1 9 x1.toNatClampNeg) = 3
      · have hf := bb_t hf hc4
        refine z_tabIn (pc := 35) C 70 (3 : Int32) dX0_loud_35 hc4 (by decide) (by decide) rfl (by decide) ?_
        refine z_aload_n (pc := 70) (i := 0) C 2 dX0_loud_70 rfl rfl ?_
        refine z_get (pc := 71) (ci := 0) C (.int (s0.1 5)) bi_X0 rfl 0 5 (by decide) rfl bf_X0_46 rfl rfl dX0_loud_71 ?_
        refine z_iconst (pc := 74) C (2 : Int32) dX0_loud_74 (by decide) ?_
        refine z_irem (pc := 75) C dX0_loud_75 (by decide) ?_
        refine z_if_ne (pc := 76) C 83 dX0_loud_76 (by decide) (fun hc5 => ?_) (fun hc5 => ?_)
        · have hf := bb_e hf hc5
          refine z_iload (pc := 83) C 1 dX0_loud_83 rfl ?_
          refine z_lv [] rfl ?_
          exact B_X0_loud_85 C hR hr h R  hf
        · have hf := bb_t hf hc5
          refine z_iconst (pc := 79) C (0 : Int32) dX0_loud_79 (by decide) ?_
          refine z_goto (pc := 80) C 85 dX0_loud_80 (by decide) ?_
          refine z_lv [] rfl ?_
          exact B_X0_loud_85 C hR hr h R  hf
      · have hf := bb_e hf hc4
        by_cases hc6 : (s0.2.1 9 x1.toNatClampNeg) = 4
        · have hf := bb_t hf hc6
          refine z_tabIn (pc := 35) C 86 (4 : Int32) dX0_loud_35 hc6 (by decide) (by decide) rfl (by decide) ?_
          refine z_iload_n (pc := 86) (i := 2) C 4 dX0_loud_86 rfl rfl ?_
          refine z_iconst (pc := 87) C (2 : Int32) dX0_loud_87 (by decide) ?_
          refine z_icmp_gt (pc := 88) C 98 dX0_loud_88 (by decide) (fun hc7 => ?_) (fun hc7 => ?_)
          · have hf := bb_t hf hc7
            refine z_iload (pc := 98) C 0 dX0_loud_98 rfl ?_
            refine z_lv [] rfl ?_
            exact B_X0_loud_100 C hR hr h R  hf
          · have hf := bb_e hf hc7
            refine z_iconst (pc := 91) C (2 : Int32) dX0_loud_91 (by decide) ?_
            refine z_iload (pc := 92) C 0 dX0_loud_92 rfl ?_
            refine z_imul (pc := 94) C dX0_loud_94 ?_
            refine z_goto (pc := 95) C 100 dX0_loud_95 (by decide) ?_
            refine z_lv [] rfl ?_
            exact B_X0_loud_100 C hR hr h R  hf
        · have hf := bb_e hf hc6
          refine z_tabOut (pc := 35) C 101 dX0_loud_35 (by have a1 := lv_neT hc2 (show (1 : Int32).toInt = 1 by decide); have a2 := lv_neT hc3 (show (2 : Int32).toInt = 2 by decide); have a3 := lv_neT hc4 (show (3 : Int32).toInt = 3 by decide); have a4 := lv_neT hc6 (show (4 : Int32).toInt = 4 by decide); omega) (by decide) ?_
          refine z_iload_n (pc := 101) (i := 3) C 5 dX0_loud_101 rfl rfl ?_
          obtain rfl := Option.some.inj hf
          exact z_iret (pc := 102) C hr R dX0_loud_102
noncomputable def F_X0_loud_0 (s0 : bb_O) (x1 : Int32) : Option Int32 := (F_X0_far_0 s0 x1).bind (fun q1 => bb_g (vp_in x1 6) (F_X0_loud_19 s0 x1 q1 (if ((0 : Int32)) < ((s0.2.1 11 x1.toNatClampNeg) - q1) then ((s0.2.1 11 x1.toNatClampNeg) - q1) else ((0 : Int32)))))
set_option maxHeartbeats 4000000 in
set_option maxRecDepth 100000 in
theorem B_X0_loud_0 {X : bb_X} (C : bb_C X RX0 cX0_loud 6) (hR : bb_r X 3) (hr : X.meth.sig.returnType = (some .int)) (h : Nat → Nat) {z : Int32} {s0 : bb_O} (R : bb_R X (some (.int z)) (wX0 X.cs h s0)) {x1 : Int32} (hf : F_X0_loud_0 s0 x1 = some z) : bb_Z X 6 (wX0 X.cs h s0) 0 [(0, .ref (h 0)), (1, .int x1)] [] := by
  refine z_aload_n (pc := 0) (i := 0) C 0 dX0_loud_0 rfl rfl ?_
  refine z_iload_n (pc := 1) (i := 1) C 1 dX0_loud_1 rfl rfl ?_
  obtain ⟨q1, hq1, hf⟩ := bb_b_some hf
  refine z_callVi (pc := 2) (ci := 0) (q0 := 0) (As := [.int x1]) (rest := []) C (hR.le (by decide)) (c_X0_far h hq1) (bb_cut_self _ _) bv_X0_far bm_X0_73 rfl rfl rfl rfl (Nat.le_of_ble_eq_true rfl) dX0_loud_2 ?_
  refine z_istore_n (pc := 5) (i := 2) (lv' := [(2, .int q1), (0, .ref (h 0)), (1, .int x1)]) C dX0_loud_5 rfl (by decide) rfl ?_
  refine z_iconst (pc := 6) C (0 : Int32) dX0_loud_6 (by decide) ?_
  refine z_aload_n (pc := 7) (i := 0) C 1 dX0_loud_7 rfl rfl ?_
  refine z_get (pc := 8) (ci := 0) C (.ref (h 12)) bi_X0 rfl 0 11 (by decide) rfl bf_X0_28 rfl rfl dX0_loud_8 ?_
  refine z_iload_n (pc := 11) (i := 1) C 2 dX0_loud_11 rfl rfl ?_
  obtain ⟨hv2, hf⟩ := bb_g_some hf
  refine z_iald (pc := 12) C 3 0 (x1.toNatClampNeg) rfl rfl hv2 rfl dX0_loud_12 ?_
  refine z_iload_n (pc := 13) (i := 2) C 0 dX0_loud_13 rfl rfl ?_
  refine z_isub (pc := 14) C dX0_loud_14 ?_
  refine z_mmax (pc := 15) C (hR.le (by decide)) bm_X0_76 bl_max_s bl_Math bl_max_c (Nat.le_of_ble_eq_true rfl) dX0_loud_15 ?_
  refine z_istore_n (pc := 18) (i := 3) (lv' := [(3, .int (if ((0 : Int32)) < ((s0.2.1 11 x1.toNatClampNeg) - q1) then ((s0.2.1 11 x1.toNatClampNeg) - q1) else ((0 : Int32)))), (2, .int q1), (0, .ref (h 0)), (1, .int x1)]) C dX0_loud_18 rfl (by decide) rfl ?_
  refine z_lv [2, 3, 1, 0] rfl ?_
  exact B_X0_loud_19 C hR hr h R  hf
theorem c_X0_loud {l : Launch} {D : va_G} {cs : Nat → ClassId} (h : Nat → Nat) {s0 : bb_O} {x1 : Int32} {z : Int32} (hf : F_X0_loud_0 s0 x1 = some z) : bb_M l yX0_loud cX0_loud 6 (some .int) 3 D cs [.ref (h 0), .int x1] (some (.int z)) (wX0 cs h s0) (wX0 cs h s0) := bb_mg (by decide) rfl (Nat.le_of_ble_eq_true rfl) rfl (fun X hl hD hcs C hR hr R => by
  subst hl
  subst hD
  subst hcs
  exact B_X0_loud_0 C hR hr h R hf)
/-! X0_followed: reads, level 4 -/
noncomputable def F_X0_followed_41 (s0 : bb_O) (k7 : Int32 → Int32 → Int32 → Option Int32) (x1 : Int32) (x2 : Int32) (x3 : Int32) : Option Int32 := k7 x1 x2 (x3 + 1)
set_option maxHeartbeats 4000000 in
set_option maxRecDepth 100000 in
theorem B_X0_followed_41 {X : bb_X} (C : bb_C X RX0 cX0_followed 5) (hR : bb_r X 4) (hr : X.meth.sig.returnType = (some .int)) (h : Nat → Nat) {z : Int32} {s0 : bb_O} (R : bb_R X (some (.int z)) (wX0 X.cs h s0)) {k7 : Int32 → Int32 → Int32 → Option Int32} (hk7 : ∀ (x1 : Int32) (x2 : Int32) (x3 : Int32), k7 x1 x2 x3 = some z → bb_Z X 5 (wX0 X.cs h s0) 7 [(0, .ref (h 0)), (1, .int x1), (2, .int x2), (3, .int x3)] []) {x1 : Int32} {x2 : Int32} {x3 : Int32} (hf : F_X0_followed_41 s0 k7 x1 x2 x3 = some z) : bb_Z X 5 (wX0 X.cs h s0) 41 [(0, .ref (h 0)), (1, .int x1), (2, .int x2), (3, .int x3)] [] := by
  refine z_iinc (pc := 41) (lv' := [(3, .int (x3 + 1)), (0, .ref (h 0)), (1, .int x1), (2, .int x2)]) C (x3 + 1) 3 dX0_followed_41 rfl rfl (by decide) rfl ?_
  refine z_goto (pc := 44) C 7 dX0_followed_44 (by decide) ?_
  refine z_lv [1, 2, 3, 0] rfl ?_
  exact hk7 _ _ _ hf
noncomputable def G_X0_followed_7 (s0 : bb_O) (k7 : Int32 → Int32 → Int32 → Option Int32) (x1 : Int32) (x2 : Int32) (x3 : Int32) : Option Int32 := if (s0.1 2) ≤ x3 then (some x1) else ((F_X0_isFree_0 s0 x3).bind (fun q2 => if q2 = 0 then (F_X0_followed_41 s0 k7 x1 x2 x3) else ((F_X0_loud_0 s0 x3).bind (fun q4 => if q4 ≤ x2 then (F_X0_followed_41 s0 k7 x1 x2 x3) else (F_X0_followed_41 s0 k7 x3 q4 x3)))))
noncomputable def F_X0_followed_7 (s0 : bb_O) : Nat → Int32 → Int32 → Int32 → Option Int32
  | 0, _, _, _ => none
  | n + 1, x1, x2, x3 => G_X0_followed_7 s0 (F_X0_followed_7 s0 n) x1 x2 x3
set_option maxHeartbeats 4000000 in
set_option maxRecDepth 100000 in
theorem A_X0_followed_7 {X : bb_X} (C : bb_C X RX0 cX0_followed 5) (hR : bb_r X 4) (hr : X.meth.sig.returnType = (some .int)) (h : Nat → Nat) {z : Int32} {s0 : bb_O} (R : bb_R X (some (.int z)) (wX0 X.cs h s0)) {k7 : Int32 → Int32 → Int32 → Option Int32} (hk7 : ∀ (x1 : Int32) (x2 : Int32) (x3 : Int32), k7 x1 x2 x3 = some z → bb_Z X 5 (wX0 X.cs h s0) 7 [(0, .ref (h 0)), (1, .int x1), (2, .int x2), (3, .int x3)] []) {x1 : Int32} {x2 : Int32} {x3 : Int32} (hf : G_X0_followed_7 s0 k7 x1 x2 x3 = some z) : bb_Z X 5 (wX0 X.cs h s0) 7 [(0, .ref (h 0)), (1, .int x1), (2, .int x2), (3, .int x3)] [] := by
  refine z_iload_n (pc := 7) (i := 3) C 3 dX0_followed_7 rfl rfl ?_
  refine z_aload_n (pc := 8) (i := 0) C 0 dX0_followed_8 rfl rfl ?_
  refine z_get (pc := 9) (ci := 0) C (.int (s0.1 2)) bi_X0 rfl 0 2 (by decide) rfl bf_X0_37 rfl rfl dX0_followed_9 ?_
  refine z_icmp_ge (pc := 12) C 47 dX0_followed_12 (by decide) (fun hc1 => ?_) (fun hc1 => ?_)
  · have hf := bb_t hf hc1
    refine z_iload_n (pc := 47) (i := 1) C 1 dX0_followed_47 rfl rfl ?_
    obtain rfl := Option.some.inj hf
    exact z_iret (pc := 48) C hr R dX0_followed_48
  · have hf := bb_e hf hc1
    refine z_aload_n (pc := 15) (i := 0) C 0 dX0_followed_15 rfl rfl ?_
    refine z_iload_n (pc := 16) (i := 3) C 3 dX0_followed_16 rfl rfl ?_
    obtain ⟨q2, hq2, hf⟩ := bb_b_some hf
    refine z_callVi (pc := 17) (ci := 0) (q0 := 0) (As := [.int x3]) (rest := []) C (hR.le (by decide)) (c_X0_isFree h hq2) (bb_cut_self _ _) bv_X0_isFree bm_X0_80 rfl rfl rfl rfl (Nat.le_of_ble_eq_true rfl) dX0_followed_17 ?_
    refine z_if_eq (pc := 20) C 41 dX0_followed_20 (by decide) (fun hc3 => ?_) (fun hc3 => ?_)
    · have hf := bb_t hf hc3
      exact B_X0_followed_41 C hR hr h R hk7 hf
    · have hf := bb_e hf hc3
      refine z_aload_n (pc := 23) (i := 0) C 0 dX0_followed_23 rfl rfl ?_
      refine z_iload_n (pc := 24) (i := 3) C 3 dX0_followed_24 rfl rfl ?_
      obtain ⟨q4, hq4, hf⟩ := bb_b_some hf
      refine z_callVi (pc := 25) (ci := 0) (q0 := 0) (As := [.int x3]) (rest := []) C (hR.le (by decide)) (c_X0_loud h hq4) (bb_cut_self _ _) bv_X0_loud bm_X0_84 rfl rfl rfl rfl (Nat.le_of_ble_eq_true rfl) dX0_followed_25 ?_
      refine z_istore (pc := 28) (lv' := [(4, .int q4), (0, .ref (h 0)), (1, .int x1), (2, .int x2), (3, .int x3)]) C dX0_followed_28 (by decide) rfl ?_
      refine z_iload (pc := 30) C 0 dX0_followed_30 rfl ?_
      refine z_iload_n (pc := 32) (i := 2) C 3 dX0_followed_32 rfl rfl ?_
      refine z_icmp_le (pc := 33) C 41 dX0_followed_33 (by decide) (fun hc5 => ?_) (fun hc5 => ?_)
      · have hf := bb_t hf hc5
        refine z_lv [1, 2, 3, 4] rfl ?_
        exact B_X0_followed_41 C hR hr h R hk7 hf
      · have hf := bb_e hf hc5
        refine z_iload (pc := 36) C 0 dX0_followed_36 rfl ?_
        refine z_istore_n (pc := 38) (i := 2) (lv' := [(2, .int q4), (4, .int q4), (0, .ref (h 0)), (1, .int x1), (3, .int x3)]) C dX0_followed_38 rfl (by decide) rfl ?_
        refine z_iload_n (pc := 39) (i := 3) C 4 dX0_followed_39 rfl rfl ?_
        refine z_istore_n (pc := 40) (i := 1) (lv' := [(1, .int x3), (2, .int q4), (4, .int q4), (0, .ref (h 0)), (3, .int x3)]) C dX0_followed_40 rfl (by decide) rfl ?_
        refine z_lv [3, 0, 1, 4] rfl ?_
        exact B_X0_followed_41 C hR hr h R hk7 hf
theorem B_X0_followed_7 {X : bb_X} (C : bb_C X RX0 cX0_followed 5) (hR : bb_r X 4) (hr : X.meth.sig.returnType = (some .int)) (h : Nat → Nat) {z : Int32} {s0 : bb_O} (R : bb_R X (some (.int z)) (wX0 X.cs h s0)) : ∀ (n : Nat) (x1 : Int32) (x2 : Int32) (x3 : Int32), F_X0_followed_7 s0 n x1 x2 x3 = some z → bb_Z X 5 (wX0 X.cs h s0) 7 [(0, .ref (h 0)), (1, .int x1), (2, .int x2), (3, .int x3)] [] := by
  intro n
  induction n with
  | zero =>
    intro x1 x2 x3 hf
    cases hf
  | succ n ih =>
    intro x1 x2 x3 hf
    exact A_X0_followed_7 C hR hr h R  ih hf
noncomputable def F_X0_followed_0 (s0 : bb_O) : Option Int32 := F_X0_followed_7 s0 bb_N ((-4 : Int32)) ((0 : Int32)) ((0 : Int32))
set_option maxHeartbeats 4000000 in
set_option maxRecDepth 100000 in
theorem B_X0_followed_0 {X : bb_X} (C : bb_C X RX0 cX0_followed 5) (hR : bb_r X 4) (hr : X.meth.sig.returnType = (some .int)) (h : Nat → Nat) {z : Int32} {s0 : bb_O} (R : bb_R X (some (.int z)) (wX0 X.cs h s0))  (hf : F_X0_followed_0 s0 = some z) : bb_Z X 5 (wX0 X.cs h s0) 0 [(0, .ref (h 0))] [] := by
  refine z_bipush (pc := 0) C (-4 : Int32) dX0_followed_0 (by decide) ?_
  refine z_istore_n (pc := 2) (i := 1) (lv' := [(1, .int ((-4 : Int32))), (0, .ref (h 0))]) C dX0_followed_2 rfl (by decide) rfl ?_
  refine z_iconst (pc := 3) C (0 : Int32) dX0_followed_3 (by decide) ?_
  refine z_istore_n (pc := 4) (i := 2) (lv' := [(2, .int ((0 : Int32))), (1, .int ((-4 : Int32))), (0, .ref (h 0))]) C dX0_followed_4 rfl (by decide) rfl ?_
  refine z_iconst (pc := 5) C (0 : Int32) dX0_followed_5 (by decide) ?_
  refine z_istore_n (pc := 6) (i := 3) (lv' := [(3, .int ((0 : Int32))), (2, .int ((0 : Int32))), (1, .int ((-4 : Int32))), (0, .ref (h 0))]) C dX0_followed_6 rfl (by decide) rfl ?_
  refine z_lv [3, 2, 1, 0] rfl ?_
  exact B_X0_followed_7 C hR hr h R  bb_N _ _ _ hf
theorem c_X0_followed {l : Launch} {D : va_G} {cs : Nat → ClassId} (h : Nat → Nat) {s0 : bb_O} {z : Int32} (hf : F_X0_followed_0 s0 = some z) : bb_M l yX0_followed cX0_followed 5 (some .int) 4 D cs [.ref (h 0)] (some (.int z)) (wX0 cs h s0) (wX0 cs h s0) := bb_mg (by decide) rfl (Nat.le_of_ble_eq_true rfl) rfl (fun X hl hD hcs C hR hr R => by
  subst hl
  subst hD
  subst hcs
  exact B_X0_followed_0 C hR hr h R hf)
/-! X0_goesFirst: reads, level 4 -/
noncomputable def F_X0_goesFirst_13 (s0 : bb_O) : Option Int32 := some ((0 : Int32))
set_option maxHeartbeats 4000000 in
set_option maxRecDepth 100000 in
theorem B_X0_goesFirst_13 {X : bb_X} (C : bb_C X RX0 cX0_goesFirst 4) (hR : bb_r X 4) (hr : X.meth.sig.returnType = (some .boolean)) (h : Nat → Nat) {z : Int32} {s0 : bb_O} (R : bb_R X (some (.int z)) (wX0 X.cs h s0))  (hf : F_X0_goesFirst_13 s0 = some z) : bb_Z X 4 (wX0 X.cs h s0) 13 [] [] := by
  refine z_iconst (pc := 13) C (0 : Int32) dX0_goesFirst_13 (by decide) ?_
  obtain rfl := Option.some.inj hf
  exact z_zret (pc := 14) C hr (bb_nz (Or.inl rfl)) R dX0_goesFirst_14
noncomputable def F_X0_goesFirst_45 (s0 : bb_O) (y0 : Int32) : Option Int32 := bb_g (bb_z y0) (some y0)
set_option maxHeartbeats 4000000 in
set_option maxRecDepth 100000 in
theorem B_X0_goesFirst_45 {X : bb_X} (C : bb_C X RX0 cX0_goesFirst 4) (hR : bb_r X 4) (hr : X.meth.sig.returnType = (some .boolean)) (h : Nat → Nat) {z : Int32} {s0 : bb_O} (R : bb_R X (some (.int z)) (wX0 X.cs h s0)) {y0 : Int32} (hf : F_X0_goesFirst_45 s0 y0 = some z) : bb_Z X 4 (wX0 X.cs h s0) 45 [] [.int y0] := by
  obtain ⟨hz1, hf⟩ := bb_g_some hf
  obtain rfl := Option.some.inj hf
  exact z_zret (pc := 45) C hr (bb_nz hz1) R dX0_goesFirst_45
noncomputable def F_X0_goesFirst_40 (s0 : bb_O) : Option Int32 := F_X0_goesFirst_45 s0 ((1 : Int32))
set_option maxHeartbeats 4000000 in
set_option maxRecDepth 100000 in
theorem B_X0_goesFirst_40 {X : bb_X} (C : bb_C X RX0 cX0_goesFirst 4) (hR : bb_r X 4) (hr : X.meth.sig.returnType = (some .boolean)) (h : Nat → Nat) {z : Int32} {s0 : bb_O} (R : bb_R X (some (.int z)) (wX0 X.cs h s0))  (hf : F_X0_goesFirst_40 s0 = some z) : bb_Z X 4 (wX0 X.cs h s0) 40 [] [] := by
  refine z_iconst (pc := 40) C (1 : Int32) dX0_goesFirst_40 (by decide) ?_
  refine z_goto (pc := 41) C 45 dX0_goesFirst_41 (by decide) ?_
  exact B_X0_goesFirst_45 C hR hr h R  hf
noncomputable def F_X0_goesFirst_44 (s0 : bb_O) : Option Int32 := F_X0_goesFirst_45 s0 ((0 : Int32))
set_option maxHeartbeats 4000000 in
set_option maxRecDepth 100000 in
theorem B_X0_goesFirst_44 {X : bb_X} (C : bb_C X RX0 cX0_goesFirst 4) (hR : bb_r X 4) (hr : X.meth.sig.returnType = (some .boolean)) (h : Nat → Nat) {z : Int32} {s0 : bb_O} (R : bb_R X (some (.int z)) (wX0 X.cs h s0))  (hf : F_X0_goesFirst_44 s0 = some z) : bb_Z X 4 (wX0 X.cs h s0) 44 [] [] := by
  refine z_iconst (pc := 44) C (0 : Int32) dX0_goesFirst_44 (by decide) ?_
  exact B_X0_goesFirst_45 C hR hr h R  hf
noncomputable def F_X0_goesFirst_0 (s0 : bb_O) (x1 : Int32) (x2 : Int32) : Option Int32 := if x1 = x2 then (F_X0_goesFirst_13 s0) else ((F_X0_isFree_0 s0 x1).bind (fun q2 => if q2 = 0 then (F_X0_goesFirst_13 s0) else ((F_X0_loud_0 s0 x1).bind (fun q4 => (F_X0_loud_0 s0 x2).bind (fun q5 => if 0 < (q4 - q5) then (F_X0_goesFirst_40 s0) else (if (q4 - q5) = 0 then (if x2 ≤ x1 then (F_X0_goesFirst_44 s0) else (F_X0_goesFirst_40 s0)) else (F_X0_goesFirst_44 s0)))))))
set_option maxHeartbeats 4000000 in
set_option maxRecDepth 100000 in
theorem B_X0_goesFirst_0 {X : bb_X} (C : bb_C X RX0 cX0_goesFirst 4) (hR : bb_r X 4) (hr : X.meth.sig.returnType = (some .boolean)) (h : Nat → Nat) {z : Int32} {s0 : bb_O} (R : bb_R X (some (.int z)) (wX0 X.cs h s0)) {x1 : Int32} {x2 : Int32} (hf : F_X0_goesFirst_0 s0 x1 x2 = some z) : bb_Z X 4 (wX0 X.cs h s0) 0 [(0, .ref (h 0)), (1, .int x1), (2, .int x2)] [] := by
  refine z_iload_n (pc := 0) (i := 1) C 1 dX0_goesFirst_0 rfl rfl ?_
  refine z_iload_n (pc := 1) (i := 2) C 2 dX0_goesFirst_1 rfl rfl ?_
  refine z_icmp_eq (pc := 2) C 13 dX0_goesFirst_2 (by decide) (fun hc1 => ?_) (fun hc1 => ?_)
  · have hf := bb_t hf hc1
    refine z_lv [] rfl ?_
    exact B_X0_goesFirst_13 C hR hr h R  hf
  · have hf := bb_e hf hc1
    refine z_aload_n (pc := 5) (i := 0) C 0 dX0_goesFirst_5 rfl rfl ?_
    refine z_iload_n (pc := 6) (i := 1) C 1 dX0_goesFirst_6 rfl rfl ?_
    obtain ⟨q2, hq2, hf⟩ := bb_b_some hf
    refine z_callVi (pc := 7) (ci := 0) (q0 := 0) (As := [.int x1]) (rest := []) C (hR.le (by decide)) (c_X0_isFree h hq2) (bb_cut_self _ _) bv_X0_isFree bm_X0_80 rfl rfl rfl rfl (Nat.le_of_ble_eq_true rfl) dX0_goesFirst_7 ?_
    refine z_if_ne (pc := 10) C 15 dX0_goesFirst_10 (by decide) (fun hc3 => ?_) (fun hc3 => ?_)
    · have hf := bb_e hf hc3
      refine z_aload_n (pc := 15) (i := 0) C 0 dX0_goesFirst_15 rfl rfl ?_
      refine z_iload_n (pc := 16) (i := 1) C 1 dX0_goesFirst_16 rfl rfl ?_
      obtain ⟨q4, hq4, hf⟩ := bb_b_some hf
      refine z_callVi (pc := 17) (ci := 0) (q0 := 0) (As := [.int x1]) (rest := []) C (hR.le (by decide)) (c_X0_loud h hq4) (bb_cut_self _ _) bv_X0_loud bm_X0_84 rfl rfl rfl rfl (Nat.le_of_ble_eq_true rfl) dX0_goesFirst_17 ?_
      refine z_aload_n (pc := 20) (i := 0) C 0 dX0_goesFirst_20 rfl rfl ?_
      refine z_iload_n (pc := 21) (i := 2) C 2 dX0_goesFirst_21 rfl rfl ?_
      obtain ⟨q5, hq5, hf⟩ := bb_b_some hf
      refine z_callVi (pc := 22) (ci := 0) (q0 := 0) (As := [.int x2]) (rest := [.int q4]) C (hR.le (by decide)) (c_X0_loud h hq5) (bb_cut_self _ _) bv_X0_loud bm_X0_84 rfl rfl rfl rfl (Nat.le_of_ble_eq_true rfl) dX0_goesFirst_22 ?_
      refine z_isub (pc := 25) C dX0_goesFirst_25 ?_
      refine z_istore_n (pc := 26) (i := 3) (lv' := [(3, .int (q4 - q5)), (0, .ref (h 0)), (1, .int x1), (2, .int x2)]) C dX0_goesFirst_26 rfl (by decide) rfl ?_
      refine z_iload_n (pc := 27) (i := 3) C 0 dX0_goesFirst_27 rfl rfl ?_
      refine z_if_gt (pc := 28) C 40 dX0_goesFirst_28 (by decide) (fun hc6 => ?_) (fun hc6 => ?_)
      · have hf := bb_t hf hc6
        refine z_lv [] rfl ?_
        exact B_X0_goesFirst_40 C hR hr h R  hf
      · have hf := bb_e hf hc6
        refine z_iload_n (pc := 31) (i := 3) C 0 dX0_goesFirst_31 rfl rfl ?_
        refine z_if_ne (pc := 32) C 44 dX0_goesFirst_32 (by decide) (fun hc7 => ?_) (fun hc7 => ?_)
        · have hf := bb_e hf hc7
          refine z_lv [] rfl ?_
          exact B_X0_goesFirst_44 C hR hr h R  hf
        · have hf := bb_t hf hc7
          refine z_iload_n (pc := 35) (i := 1) C 2 dX0_goesFirst_35 rfl rfl ?_
          refine z_iload_n (pc := 36) (i := 2) C 3 dX0_goesFirst_36 rfl rfl ?_
          refine z_icmp_ge (pc := 37) C 44 dX0_goesFirst_37 (by decide) (fun hc8 => ?_) (fun hc8 => ?_)
          · have hf := bb_t hf hc8
            refine z_lv [] rfl ?_
            exact B_X0_goesFirst_44 C hR hr h R  hf
          · have hf := bb_e hf hc8
            refine z_lv [] rfl ?_
            exact B_X0_goesFirst_40 C hR hr h R  hf
    · have hf := bb_t hf hc3
      refine z_lv [] rfl ?_
      exact B_X0_goesFirst_13 C hR hr h R  hf
theorem c_X0_goesFirst {l : Launch} {D : va_G} {cs : Nat → ClassId} (h : Nat → Nat) {s0 : bb_O} {x1 : Int32} {x2 : Int32} {z : Int32} (hf : F_X0_goesFirst_0 s0 x1 x2 = some z) : bb_M l yX0_goesFirst cX0_goesFirst 4 (some .boolean) 4 D cs [.ref (h 0), .int x1, .int x2] (some (.int z)) (wX0 cs h s0) (wX0 cs h s0) := bb_mg (by decide) rfl (Nat.le_of_ble_eq_true rfl) rfl (fun X hl hD hcs C hR hr R => by
  subst hl
  subst hD
  subst hcs
  exact B_X0_goesFirst_0 C hR hr h R hf)
/-! X0_feel: reads, level 1 -/
noncomputable def F_X0_feel_0 (s0 : bb_O) (x1 : Int32) : Option Int32 := bb_g (vp_in x1 6) (bb_g (vp_in x1 6) (some ((s0.2.1 12 x1.toNatClampNeg) ^^^ (s0.2.1 13 x1.toNatClampNeg))))
set_option maxHeartbeats 4000000 in
set_option maxRecDepth 100000 in
theorem B_X0_feel_0 {X : bb_X} (C : bb_C X RX0 cX0_feel 2) (hR : bb_r X 1) (hr : X.meth.sig.returnType = (some .int)) (h : Nat → Nat) {z : Int32} {s0 : bb_O} (R : bb_R X (some (.int z)) (wX0 X.cs h s0)) {x1 : Int32} (hf : F_X0_feel_0 s0 x1 = some z) : bb_Z X 2 (wX0 X.cs h s0) 0 [(0, .ref (h 0)), (1, .int x1)] [] := by
  refine z_aload_n (pc := 0) (i := 0) C 0 dX0_feel_0 rfl rfl ?_
  refine z_get (pc := 1) (ci := 0) C (.ref (h 13)) bi_X0 rfl 0 12 (by decide) rfl bf_X0_31 rfl rfl dX0_feel_1 ?_
  refine z_iload_n (pc := 4) (i := 1) C 1 dX0_feel_4 rfl rfl ?_
  obtain ⟨hv1, hf⟩ := bb_g_some hf
  refine z_iald (pc := 5) C 4 0 (x1.toNatClampNeg) rfl rfl hv1 rfl dX0_feel_5 ?_
  refine z_aload_n (pc := 6) (i := 0) C 0 dX0_feel_6 rfl rfl ?_
  refine z_get (pc := 7) (ci := 0) C (.ref (h 14)) bi_X0 rfl 0 13 (by decide) rfl bf_X0_34 rfl rfl dX0_feel_7 ?_
  refine z_iload_n (pc := 10) (i := 1) C 1 dX0_feel_10 rfl rfl ?_
  obtain ⟨hv2, hf⟩ := bb_g_some hf
  refine z_iald (pc := 11) C 5 0 (x1.toNatClampNeg) rfl rfl hv2 rfl dX0_feel_11 ?_
  refine z_ixor (pc := 12) C dX0_feel_12 ?_
  obtain rfl := Option.some.inj hf
  exact z_iret (pc := 13) C hr R dX0_feel_13
theorem c_X0_feel {l : Launch} {D : va_G} {cs : Nat → ClassId} (h : Nat → Nat) {s0 : bb_O} {x1 : Int32} {z : Int32} (hf : F_X0_feel_0 s0 x1 = some z) : bb_M l yX0_feel cX0_feel 2 (some .int) 1 D cs [.ref (h 0), .int x1] (some (.int z)) (wX0 cs h s0) (wX0 cs h s0) := bb_mg (by decide) rfl (Nat.le_of_ble_eq_true rfl) rfl (fun X hl hD hcs C hR hr R => by
  subst hl
  subst hD
  subst hcs
  exact B_X0_feel_0 C hR hr h R hf)
/-! J6_bitCount_0f7a4: reads, level 1 -/
noncomputable def F_J6_bitCount_0f7a4_48 (x0 : Int32) : Option Int32 := some (x0 &&& ((63 : Int32)))
set_option maxHeartbeats 4000000 in
set_option maxRecDepth 100000 in
theorem B_J6_bitCount_0f7a4_48 {X : bb_X} (C : bb_C X RJ6 cJ6_bitCount_0f7a4 1) (hR : bb_r X 1) (hr : X.meth.sig.returnType = (some .int)) {z : Int32} (R : bb_R X (some (.int z)) ([])) {x0 : Int32} (hf : F_J6_bitCount_0f7a4_48 x0 = some z) : bb_Z X 1 ([]) 48 [(0, .int x0)] [] := by
  refine z_iload_n (pc := 48) (i := 0) C 0 dJ6_bitCount_0f7a4_48 rfl rfl ?_
  refine z_bipush (pc := 49) C (63 : Int32) dJ6_bitCount_0f7a4_49 (by decide) ?_
  refine z_iand (pc := 51) C dJ6_bitCount_0f7a4_51 ?_
  obtain rfl := Option.some.inj hf
  exact z_iret (pc := 52) C hr R dJ6_bitCount_0f7a4_52
noncomputable def F_J6_bitCount_0f7a4_41 (x0 : Int32) : Option Int32 := F_J6_bitCount_0f7a4_48 (x0 + ((x0.toUInt32 >>> (((16 : Int32)).toUInt32 &&& Int32.toUInt32 31)).toInt32))
set_option maxHeartbeats 4000000 in
set_option maxRecDepth 100000 in
theorem B_J6_bitCount_0f7a4_41 {X : bb_X} (C : bb_C X RJ6 cJ6_bitCount_0f7a4 1) (hR : bb_r X 1) (hr : X.meth.sig.returnType = (some .int)) {z : Int32} (R : bb_R X (some (.int z)) ([])) {x0 : Int32} (hf : F_J6_bitCount_0f7a4_41 x0 = some z) : bb_Z X 1 ([]) 41 [(0, .int x0)] [] := by
  refine z_iload_n (pc := 41) (i := 0) C 0 dJ6_bitCount_0f7a4_41 rfl rfl ?_
  refine z_iload_n (pc := 42) (i := 0) C 0 dJ6_bitCount_0f7a4_42 rfl rfl ?_
  refine z_bipush (pc := 43) C (16 : Int32) dJ6_bitCount_0f7a4_43 (by decide) ?_
  refine z_iushr (pc := 45) C dJ6_bitCount_0f7a4_45 ?_
  refine z_iadd (pc := 46) C dJ6_bitCount_0f7a4_46 ?_
  refine z_istore_n (pc := 47) (i := 0) (lv' := [(0, .int (x0 + ((x0.toUInt32 >>> (((16 : Int32)).toUInt32 &&& Int32.toUInt32 31)).toInt32)))]) C dJ6_bitCount_0f7a4_47 rfl (by decide) rfl ?_
  exact B_J6_bitCount_0f7a4_48 C hR hr  R  hf
noncomputable def F_J6_bitCount_0f7a4_34 (x0 : Int32) : Option Int32 := F_J6_bitCount_0f7a4_41 (x0 + ((x0.toUInt32 >>> (((8 : Int32)).toUInt32 &&& Int32.toUInt32 31)).toInt32))
set_option maxHeartbeats 4000000 in
set_option maxRecDepth 100000 in
theorem B_J6_bitCount_0f7a4_34 {X : bb_X} (C : bb_C X RJ6 cJ6_bitCount_0f7a4 1) (hR : bb_r X 1) (hr : X.meth.sig.returnType = (some .int)) {z : Int32} (R : bb_R X (some (.int z)) ([])) {x0 : Int32} (hf : F_J6_bitCount_0f7a4_34 x0 = some z) : bb_Z X 1 ([]) 34 [(0, .int x0)] [] := by
  refine z_iload_n (pc := 34) (i := 0) C 0 dJ6_bitCount_0f7a4_34 rfl rfl ?_
  refine z_iload_n (pc := 35) (i := 0) C 0 dJ6_bitCount_0f7a4_35 rfl rfl ?_
  refine z_bipush (pc := 36) C (8 : Int32) dJ6_bitCount_0f7a4_36 (by decide) ?_
  refine z_iushr (pc := 38) C dJ6_bitCount_0f7a4_38 ?_
  refine z_iadd (pc := 39) C dJ6_bitCount_0f7a4_39 ?_
  refine z_istore_n (pc := 40) (i := 0) (lv' := [(0, .int (x0 + ((x0.toUInt32 >>> (((8 : Int32)).toUInt32 &&& Int32.toUInt32 31)).toInt32)))]) C dJ6_bitCount_0f7a4_40 rfl (by decide) rfl ?_
  exact B_J6_bitCount_0f7a4_41 C hR hr  R  hf
noncomputable def F_J6_bitCount_0f7a4_24 (x0 : Int32) : Option Int32 := F_J6_bitCount_0f7a4_34 ((x0 + ((x0.toUInt32 >>> (((4 : Int32)).toUInt32 &&& Int32.toUInt32 31)).toInt32)) &&& ((252645135 : Int32)))
set_option maxHeartbeats 4000000 in
set_option maxRecDepth 100000 in
theorem B_J6_bitCount_0f7a4_24 {X : bb_X} (C : bb_C X RJ6 cJ6_bitCount_0f7a4 1) (hR : bb_r X 1) (hr : X.meth.sig.returnType = (some .int)) {z : Int32} (R : bb_R X (some (.int z)) ([])) {x0 : Int32} (hf : F_J6_bitCount_0f7a4_24 x0 = some z) : bb_Z X 1 ([]) 24 [(0, .int x0)] [] := by
  refine z_iload_n (pc := 24) (i := 0) C 0 dJ6_bitCount_0f7a4_24 rfl rfl ?_
  refine z_iload_n (pc := 25) (i := 0) C 0 dJ6_bitCount_0f7a4_25 rfl rfl ?_
  refine z_iconst (pc := 26) C (4 : Int32) dJ6_bitCount_0f7a4_26 (by decide) ?_
  refine z_iushr (pc := 27) C dJ6_bitCount_0f7a4_27 ?_
  refine z_iadd (pc := 28) C dJ6_bitCount_0f7a4_28 ?_
  refine z_ldc_w (pc := 29) C bk_J6_267 dJ6_bitCount_0f7a4_29 ?_
  refine z_iand (pc := 32) C dJ6_bitCount_0f7a4_32 ?_
  refine z_istore_n (pc := 33) (i := 0) (lv' := [(0, .int ((x0 + ((x0.toUInt32 >>> (((4 : Int32)).toUInt32 &&& Int32.toUInt32 31)).toInt32)) &&& ((252645135 : Int32))))]) C dJ6_bitCount_0f7a4_33 rfl (by decide) rfl ?_
  exact B_J6_bitCount_0f7a4_34 C hR hr  R  hf
noncomputable def F_J6_bitCount_0f7a4_10 (x0 : Int32) : Option Int32 := F_J6_bitCount_0f7a4_24 ((x0 &&& ((858993459 : Int32))) + (((x0.toUInt32 >>> (((2 : Int32)).toUInt32 &&& Int32.toUInt32 31)).toInt32) &&& ((858993459 : Int32))))
set_option maxHeartbeats 4000000 in
set_option maxRecDepth 100000 in
theorem B_J6_bitCount_0f7a4_10 {X : bb_X} (C : bb_C X RJ6 cJ6_bitCount_0f7a4 1) (hR : bb_r X 1) (hr : X.meth.sig.returnType = (some .int)) {z : Int32} (R : bb_R X (some (.int z)) ([])) {x0 : Int32} (hf : F_J6_bitCount_0f7a4_10 x0 = some z) : bb_Z X 1 ([]) 10 [(0, .int x0)] [] := by
  refine z_iload_n (pc := 10) (i := 0) C 0 dJ6_bitCount_0f7a4_10 rfl rfl ?_
  refine z_ldc_w (pc := 11) C bk_J6_266 dJ6_bitCount_0f7a4_11 ?_
  refine z_iand (pc := 14) C dJ6_bitCount_0f7a4_14 ?_
  refine z_iload_n (pc := 15) (i := 0) C 0 dJ6_bitCount_0f7a4_15 rfl rfl ?_
  refine z_iconst (pc := 16) C (2 : Int32) dJ6_bitCount_0f7a4_16 (by decide) ?_
  refine z_iushr (pc := 17) C dJ6_bitCount_0f7a4_17 ?_
  refine z_ldc_w (pc := 18) C bk_J6_266 dJ6_bitCount_0f7a4_18 ?_
  refine z_iand (pc := 21) C dJ6_bitCount_0f7a4_21 ?_
  refine z_iadd (pc := 22) C dJ6_bitCount_0f7a4_22 ?_
  refine z_istore_n (pc := 23) (i := 0) (lv' := [(0, .int ((x0 &&& ((858993459 : Int32))) + (((x0.toUInt32 >>> (((2 : Int32)).toUInt32 &&& Int32.toUInt32 31)).toInt32) &&& ((858993459 : Int32)))))]) C dJ6_bitCount_0f7a4_23 rfl (by decide) rfl ?_
  exact B_J6_bitCount_0f7a4_24 C hR hr  R  hf
noncomputable def F_J6_bitCount_0f7a4_0 (x0 : Int32) : Option Int32 := F_J6_bitCount_0f7a4_10 (x0 - (((x0.toUInt32 >>> (((1 : Int32)).toUInt32 &&& Int32.toUInt32 31)).toInt32) &&& ((1431655765 : Int32))))
set_option maxHeartbeats 4000000 in
set_option maxRecDepth 100000 in
theorem B_J6_bitCount_0f7a4_0 {X : bb_X} (C : bb_C X RJ6 cJ6_bitCount_0f7a4 1) (hR : bb_r X 1) (hr : X.meth.sig.returnType = (some .int)) {z : Int32} (R : bb_R X (some (.int z)) ([])) {x0 : Int32} (hf : F_J6_bitCount_0f7a4_0 x0 = some z) : bb_Z X 1 ([]) 0 [(0, .int x0)] [] := by
  refine z_iload_n (pc := 0) (i := 0) C 0 dJ6_bitCount_0f7a4_0 rfl rfl ?_
  refine z_iload_n (pc := 1) (i := 0) C 0 dJ6_bitCount_0f7a4_1 rfl rfl ?_
  refine z_iconst (pc := 2) C (1 : Int32) dJ6_bitCount_0f7a4_2 (by decide) ?_
  refine z_iushr (pc := 3) C dJ6_bitCount_0f7a4_3 ?_
  refine z_ldc_w (pc := 4) C bk_J6_265 dJ6_bitCount_0f7a4_4 ?_
  refine z_iand (pc := 7) C dJ6_bitCount_0f7a4_7 ?_
  refine z_isub (pc := 8) C dJ6_bitCount_0f7a4_8 ?_
  refine z_istore_n (pc := 9) (i := 0) (lv' := [(0, .int (x0 - (((x0.toUInt32 >>> (((1 : Int32)).toUInt32 &&& Int32.toUInt32 31)).toInt32) &&& ((1431655765 : Int32)))))]) C dJ6_bitCount_0f7a4_9 rfl (by decide) rfl ?_
  exact B_J6_bitCount_0f7a4_10 C hR hr  R  hf
theorem c_J6_bitCount_0f7a4 {l : Launch} {D : va_G} {cs : Nat → ClassId} {x0 : Int32} {z : Int32} (hf : F_J6_bitCount_0f7a4_0 x0 = some z) : bb_M l yJ6_bitCount_0f7a4 cJ6_bitCount_0f7a4 1 (some .int) 1 D cs [.int x0] (some (.int z)) ([]) ([]) := bb_mg (by decide) rfl (Nat.le_of_ble_eq_true rfl) rfl (fun X hl hD hcs C hR hr R => by
  subst hl
  subst hD
  subst hcs
  exact B_J6_bitCount_0f7a4_0 C hR hr  R hf)
/-! X0_namedBy: reads, level 2 -/
noncomputable def F_X0_namedBy_44 (s0 : bb_O) (k9 : Int32 → Int32 → Int32 → Int32 → Option Int32) (x1 : Int32) (x2 : Int32) (x3 : Int32) (x4 : Int32) : Option Int32 := k9 x1 x2 x3 (x4 + 1)
set_option maxHeartbeats 4000000 in
set_option maxRecDepth 100000 in
theorem B_X0_namedBy_44 {X : bb_X} (C : bb_C X RX0 cX0_namedBy 6) (hR : bb_r X 2) (hr : X.meth.sig.returnType = (some .int)) (h : Nat → Nat) {z : Int32} {s0 : bb_O} (R : bb_R X (some (.int z)) (wX0 X.cs h s0)) {k9 : Int32 → Int32 → Int32 → Int32 → Option Int32} (hk9 : ∀ (x1 : Int32) (x2 : Int32) (x3 : Int32) (x4 : Int32), k9 x1 x2 x3 x4 = some z → bb_Z X 6 (wX0 X.cs h s0) 9 [(0, .ref (h 0)), (1, .int x1), (2, .int x2), (3, .int x3), (4, .int x4)] []) {x1 : Int32} {x2 : Int32} {x3 : Int32} {x4 : Int32} (hf : F_X0_namedBy_44 s0 k9 x1 x2 x3 x4 = some z) : bb_Z X 6 (wX0 X.cs h s0) 44 [(0, .ref (h 0)), (1, .int x1), (2, .int x2), (3, .int x3), (4, .int x4)] [] := by
  refine z_iinc (pc := 44) (lv' := [(4, .int (x4 + 1)), (0, .ref (h 0)), (1, .int x1), (2, .int x2), (3, .int x3)]) C (x4 + 1) 4 dX0_namedBy_44 rfl rfl (by decide) rfl ?_
  refine z_goto (pc := 47) C 9 dX0_namedBy_47 (by decide) ?_
  refine z_lv [1, 2, 3, 4, 0] rfl ?_
  exact hk9 _ _ _ _ hf
noncomputable def G_X0_namedBy_9 (s0 : bb_O) (k9 : Int32 → Int32 → Int32 → Int32 → Option Int32) (x1 : Int32) (x2 : Int32) (x3 : Int32) (x4 : Int32) : Option Int32 := if (s0.1 2) ≤ x4 then (some x2) else (bb_g (vp_in x4 6) ((F_J6_bitCount_0f7a4_0 ((s0.2.1 12 x4.toNatClampNeg) ^^^ x1)).bind (fun q3 => if x3 ≤ q3 then (F_X0_namedBy_44 s0 k9 x1 x2 x3 x4) else (F_X0_namedBy_44 s0 k9 x1 x4 q3 x4))))
noncomputable def F_X0_namedBy_9 (s0 : bb_O) : Nat → Int32 → Int32 → Int32 → Int32 → Option Int32
  | 0, _, _, _, _ => none
  | n + 1, x1, x2, x3, x4 => G_X0_namedBy_9 s0 (F_X0_namedBy_9 s0 n) x1 x2 x3 x4
set_option maxHeartbeats 4000000 in
set_option maxRecDepth 100000 in
theorem A_X0_namedBy_9 {X : bb_X} (C : bb_C X RX0 cX0_namedBy 6) (hR : bb_r X 2) (hr : X.meth.sig.returnType = (some .int)) (h : Nat → Nat) {z : Int32} {s0 : bb_O} (R : bb_R X (some (.int z)) (wX0 X.cs h s0)) {k9 : Int32 → Int32 → Int32 → Int32 → Option Int32} (hk9 : ∀ (x1 : Int32) (x2 : Int32) (x3 : Int32) (x4 : Int32), k9 x1 x2 x3 x4 = some z → bb_Z X 6 (wX0 X.cs h s0) 9 [(0, .ref (h 0)), (1, .int x1), (2, .int x2), (3, .int x3), (4, .int x4)] []) {x1 : Int32} {x2 : Int32} {x3 : Int32} {x4 : Int32} (hf : G_X0_namedBy_9 s0 k9 x1 x2 x3 x4 = some z) : bb_Z X 6 (wX0 X.cs h s0) 9 [(0, .ref (h 0)), (1, .int x1), (2, .int x2), (3, .int x3), (4, .int x4)] [] := by
  refine z_iload (pc := 9) C 4 dX0_namedBy_9 rfl ?_
  refine z_aload_n (pc := 11) (i := 0) C 0 dX0_namedBy_11 rfl rfl ?_
  refine z_get (pc := 12) (ci := 0) C (.int (s0.1 2)) bi_X0 rfl 0 2 (by decide) rfl bf_X0_37 rfl rfl dX0_namedBy_12 ?_
  refine z_icmp_ge (pc := 15) C 50 dX0_namedBy_15 (by decide) (fun hc1 => ?_) (fun hc1 => ?_)
  · have hf := bb_t hf hc1
    refine z_iload_n (pc := 50) (i := 2) C 2 dX0_namedBy_50 rfl rfl ?_
    obtain rfl := Option.some.inj hf
    exact z_iret (pc := 51) C hr R dX0_namedBy_51
  · have hf := bb_e hf hc1
    refine z_aload_n (pc := 18) (i := 0) C 0 dX0_namedBy_18 rfl rfl ?_
    refine z_get (pc := 19) (ci := 0) C (.ref (h 13)) bi_X0 rfl 0 12 (by decide) rfl bf_X0_31 rfl rfl dX0_namedBy_19 ?_
    refine z_iload (pc := 22) C 4 dX0_namedBy_22 rfl ?_
    obtain ⟨hv2, hf⟩ := bb_g_some hf
    refine z_iald (pc := 24) C 4 0 (x4.toNatClampNeg) rfl rfl hv2 rfl dX0_namedBy_24 ?_
    refine z_iload_n (pc := 25) (i := 1) C 1 dX0_namedBy_25 rfl rfl ?_
    refine z_ixor (pc := 26) C dX0_namedBy_26 ?_
    obtain ⟨q3, hq3, hf⟩ := bb_b_some hf
    refine z_callSi (pc := 27) (As := [.int ((s0.2.1 12 x4.toNatClampNeg) ^^^ x1)]) (rest := []) C (hR.le (by decide)) (c_J6_bitCount_0f7a4 hq3) (bb_cut_none _) bv_J6_bitCount_0f7a4 bm_X0_87 rfl rfl (Nat.le_of_ble_eq_true rfl) dX0_namedBy_27 ?_
    refine z_istore (pc := 30) (lv' := [(5, .int q3), (0, .ref (h 0)), (1, .int x1), (2, .int x2), (3, .int x3), (4, .int x4)]) C dX0_namedBy_30 (by decide) rfl ?_
    refine z_iload (pc := 32) C 0 dX0_namedBy_32 rfl ?_
    refine z_iload_n (pc := 34) (i := 3) C 4 dX0_namedBy_34 rfl rfl ?_
    refine z_icmp_ge (pc := 35) C 44 dX0_namedBy_35 (by decide) (fun hc4 => ?_) (fun hc4 => ?_)
    · have hf := bb_t hf hc4
      refine z_lv [1, 2, 3, 4, 5] rfl ?_
      exact B_X0_namedBy_44 C hR hr h R hk9 hf
    · have hf := bb_e hf hc4
      refine z_iload (pc := 38) C 0 dX0_namedBy_38 rfl ?_
      refine z_istore_n (pc := 40) (i := 3) (lv' := [(3, .int q3), (5, .int q3), (0, .ref (h 0)), (1, .int x1), (2, .int x2), (4, .int x4)]) C dX0_namedBy_40 rfl (by decide) rfl ?_
      refine z_iload (pc := 41) C 5 dX0_namedBy_41 rfl ?_
      refine z_istore_n (pc := 43) (i := 2) (lv' := [(2, .int x4), (3, .int q3), (5, .int q3), (0, .ref (h 0)), (1, .int x1), (4, .int x4)]) C dX0_namedBy_43 rfl (by decide) rfl ?_
      refine z_lv [3, 4, 0, 1, 5] rfl ?_
      exact B_X0_namedBy_44 C hR hr h R hk9 hf
theorem B_X0_namedBy_9 {X : bb_X} (C : bb_C X RX0 cX0_namedBy 6) (hR : bb_r X 2) (hr : X.meth.sig.returnType = (some .int)) (h : Nat → Nat) {z : Int32} {s0 : bb_O} (R : bb_R X (some (.int z)) (wX0 X.cs h s0)) : ∀ (n : Nat) (x1 : Int32) (x2 : Int32) (x3 : Int32) (x4 : Int32), F_X0_namedBy_9 s0 n x1 x2 x3 x4 = some z → bb_Z X 6 (wX0 X.cs h s0) 9 [(0, .ref (h 0)), (1, .int x1), (2, .int x2), (3, .int x3), (4, .int x4)] [] := by
  intro n
  induction n with
  | zero =>
    intro x1 x2 x3 x4 hf
    cases hf
  | succ n ih =>
    intro x1 x2 x3 x4 hf
    exact A_X0_namedBy_9 C hR hr h R  ih hf
noncomputable def F_X0_namedBy_0 (s0 : bb_O) (x1 : Int32) : Option Int32 := F_X0_namedBy_9 s0 bb_N x1 ((-4 : Int32)) ((7 : Int32)) ((0 : Int32))
set_option maxHeartbeats 4000000 in
set_option maxRecDepth 100000 in
theorem B_X0_namedBy_0 {X : bb_X} (C : bb_C X RX0 cX0_namedBy 6) (hR : bb_r X 2) (hr : X.meth.sig.returnType = (some .int)) (h : Nat → Nat) {z : Int32} {s0 : bb_O} (R : bb_R X (some (.int z)) (wX0 X.cs h s0)) {x1 : Int32} (hf : F_X0_namedBy_0 s0 x1 = some z) : bb_Z X 6 (wX0 X.cs h s0) 0 [(0, .ref (h 0)), (1, .int x1)] [] := by
  refine z_bipush (pc := 0) C (-4 : Int32) dX0_namedBy_0 (by decide) ?_
  refine z_istore_n (pc := 2) (i := 2) (lv' := [(2, .int ((-4 : Int32))), (0, .ref (h 0)), (1, .int x1)]) C dX0_namedBy_2 rfl (by decide) rfl ?_
  refine z_bipush (pc := 3) C (7 : Int32) dX0_namedBy_3 (by decide) ?_
  refine z_istore_n (pc := 5) (i := 3) (lv' := [(3, .int ((7 : Int32))), (2, .int ((-4 : Int32))), (0, .ref (h 0)), (1, .int x1)]) C dX0_namedBy_5 rfl (by decide) rfl ?_
  refine z_iconst (pc := 6) C (0 : Int32) dX0_namedBy_6 (by decide) ?_
  refine z_istore (pc := 7) (lv' := [(4, .int ((0 : Int32))), (3, .int ((7 : Int32))), (2, .int ((-4 : Int32))), (0, .ref (h 0)), (1, .int x1)]) C dX0_namedBy_7 (by decide) rfl ?_
  refine z_lv [3, 4, 2, 1, 0] rfl ?_
  exact B_X0_namedBy_9 C hR hr h R  bb_N _ _ _ _ hf
theorem c_X0_namedBy {l : Launch} {D : va_G} {cs : Nat → ClassId} (h : Nat → Nat) {s0 : bb_O} {x1 : Int32} {z : Int32} (hf : F_X0_namedBy_0 s0 x1 = some z) : bb_M l yX0_namedBy cX0_namedBy 6 (some .int) 2 D cs [.ref (h 0), .int x1] (some (.int z)) (wX0 cs h s0) (wX0 cs h s0) := bb_mg (by decide) rfl (Nat.le_of_ble_eq_true rfl) rfl (fun X hl hD hcs C hR hr R => by
  subst hl
  subst hD
  subst hcs
  exact B_X0_namedBy_0 C hR hr h R hf)
/-! J6_compare_7cf53: reads, level 1 -/
noncomputable def F_J6_compare_7cf53_19 (y0 : Int32) : Option Int32 := some y0
set_option maxHeartbeats 4000000 in
set_option maxRecDepth 100000 in
theorem B_J6_compare_7cf53_19 {X : bb_X} (C : bb_C X RJ6 cJ6_compare_7cf53 2) (hR : bb_r X 1) (hr : X.meth.sig.returnType = (some .int)) {z : Int32} (R : bb_R X (some (.int z)) ([])) {y0 : Int32} (hf : F_J6_compare_7cf53_19 y0 = some z) : bb_Z X 2 ([]) 19 [] [.int y0] := by
  obtain rfl := Option.some.inj hf
  exact z_iret (pc := 19) C hr R dJ6_compare_7cf53_19
noncomputable def F_J6_compare_7cf53_0 (x0 : Int32) (x1 : Int32) : Option Int32 := if x1 ≤ x0 then (if x0 = x1 then (F_J6_compare_7cf53_19 ((0 : Int32))) else (F_J6_compare_7cf53_19 ((1 : Int32)))) else (F_J6_compare_7cf53_19 ((-1 : Int32)))
set_option maxHeartbeats 4000000 in
set_option maxRecDepth 100000 in
theorem B_J6_compare_7cf53_0 {X : bb_X} (C : bb_C X RJ6 cJ6_compare_7cf53 2) (hR : bb_r X 1) (hr : X.meth.sig.returnType = (some .int)) {z : Int32} (R : bb_R X (some (.int z)) ([])) {x0 : Int32} {x1 : Int32} (hf : F_J6_compare_7cf53_0 x0 x1 = some z) : bb_Z X 2 ([]) 0 [(0, .int x0), (1, .int x1)] [] := by
  refine z_iload_n (pc := 0) (i := 0) C 0 dJ6_compare_7cf53_0 rfl rfl ?_
  refine z_iload_n (pc := 1) (i := 1) C 1 dJ6_compare_7cf53_1 rfl rfl ?_
  refine z_icmp_ge (pc := 2) C 9 dJ6_compare_7cf53_2 (by decide) (fun hc1 => ?_) (fun hc1 => ?_)
  · have hf := bb_t hf hc1
    refine z_iload_n (pc := 9) (i := 0) C 0 dJ6_compare_7cf53_9 rfl rfl ?_
    refine z_iload_n (pc := 10) (i := 1) C 1 dJ6_compare_7cf53_10 rfl rfl ?_
    refine z_icmp_ne (pc := 11) C 18 dJ6_compare_7cf53_11 (by decide) (fun hc2 => ?_) (fun hc2 => ?_)
    · have hf := bb_e hf hc2
      refine z_iconst (pc := 18) C (1 : Int32) dJ6_compare_7cf53_18 (by decide) ?_
      refine z_lv [] rfl ?_
      exact B_J6_compare_7cf53_19 C hR hr  R  hf
    · have hf := bb_t hf hc2
      refine z_iconst (pc := 14) C (0 : Int32) dJ6_compare_7cf53_14 (by decide) ?_
      refine z_goto (pc := 15) C 19 dJ6_compare_7cf53_15 (by decide) ?_
      refine z_lv [] rfl ?_
      exact B_J6_compare_7cf53_19 C hR hr  R  hf
  · have hf := bb_e hf hc1
    refine z_iconst (pc := 5) C (-1 : Int32) dJ6_compare_7cf53_5 (by decide) ?_
    refine z_goto (pc := 6) C 19 dJ6_compare_7cf53_6 (by decide) ?_
    refine z_lv [] rfl ?_
    exact B_J6_compare_7cf53_19 C hR hr  R  hf
theorem c_J6_compare_7cf53 {l : Launch} {D : va_G} {cs : Nat → ClassId} {x0 : Int32} {x1 : Int32} {z : Int32} (hf : F_J6_compare_7cf53_0 x0 x1 = some z) : bb_M l yJ6_compare_7cf53 cJ6_compare_7cf53 2 (some .int) 1 D cs [.int x0, .int x1] (some (.int z)) ([]) ([]) := bb_mg (by decide) rfl (Nat.le_of_ble_eq_true rfl) rfl (fun X hl hD hcs C hR hr R => by
  subst hl
  subst hD
  subst hcs
  exact B_J6_compare_7cf53_0 C hR hr  R hf)
/-! X0_nearerTo: reads, level 2 -/
noncomputable def F_X0_nearerTo_44 (s0 : bb_O) (y0 : Int32) : Option Int32 := some y0
set_option maxHeartbeats 4000000 in
set_option maxRecDepth 100000 in
theorem B_X0_nearerTo_44 {X : bb_X} (C : bb_C X RX0 cX0_nearerTo 3) (hR : bb_r X 2) (hr : X.meth.sig.returnType = (some .int)) (h : Nat → Nat) {z : Int32} {s0 : bb_O} (R : bb_R X (some (.int z)) (wX0 X.cs h s0)) {y0 : Int32} (hf : F_X0_nearerTo_44 s0 y0 = some z) : bb_Z X 3 (wX0 X.cs h s0) 44 [] [.int y0] := by
  obtain rfl := Option.some.inj hf
  exact z_iret (pc := 44) C hr R dX0_nearerTo_44
noncomputable def F_X0_nearerTo_0 (s0 : bb_O) (x1 : Int32) : Option Int32 := (F_X0_rowOf_0 s0 x1).bind (fun q1 => (F_X0_rowOf_0 s0 (s0.1 3)).bind (fun q2 => if (q1 - q2) = 0 then ((F_J6_compare_7cf53_0 x1 (s0.1 3)).bind (fun q4 => some ((s0.1 3) + q4))) else (if (q1 - q2) ≤ 0 then (F_X0_nearerTo_44 s0 ((s0.1 3) - (s0.1 1))) else (F_X0_nearerTo_44 s0 ((s0.1 3) + (s0.1 1))))))
set_option maxHeartbeats 4000000 in
set_option maxRecDepth 100000 in
theorem B_X0_nearerTo_0 {X : bb_X} (C : bb_C X RX0 cX0_nearerTo 3) (hR : bb_r X 2) (hr : X.meth.sig.returnType = (some .int)) (h : Nat → Nat) {z : Int32} {s0 : bb_O} (R : bb_R X (some (.int z)) (wX0 X.cs h s0)) {x1 : Int32} (hf : F_X0_nearerTo_0 s0 x1 = some z) : bb_Z X 3 (wX0 X.cs h s0) 0 [(0, .ref (h 0)), (1, .int x1)] [] := by
  refine z_aload_n (pc := 0) (i := 0) C 0 dX0_nearerTo_0 rfl rfl ?_
  refine z_iload_n (pc := 1) (i := 1) C 1 dX0_nearerTo_1 rfl rfl ?_
  obtain ⟨q1, hq1, hf⟩ := bb_b_some hf
  refine z_callVi (pc := 2) (ci := 0) (q0 := 0) (As := [.int x1]) (rest := []) C (hR.le (by decide)) (c_X0_rowOf h hq1) (bb_cut_self _ _) bv_X0_rowOf bm_X0_61 rfl rfl rfl rfl (Nat.le_of_ble_eq_true rfl) dX0_nearerTo_2 ?_
  refine z_aload_n (pc := 5) (i := 0) C 0 dX0_nearerTo_5 rfl rfl ?_
  refine z_aload_n (pc := 6) (i := 0) C 0 dX0_nearerTo_6 rfl rfl ?_
  refine z_get (pc := 7) (ci := 0) C (.int (s0.1 3)) bi_X0 rfl 0 3 (by decide) rfl bf_X0_40 rfl rfl dX0_nearerTo_7 ?_
  obtain ⟨q2, hq2, hf⟩ := bb_b_some hf
  refine z_callVi (pc := 10) (ci := 0) (q0 := 0) (As := [.int (s0.1 3)]) (rest := [.int q1]) C (hR.le (by decide)) (c_X0_rowOf h hq2) (bb_cut_self _ _) bv_X0_rowOf bm_X0_61 rfl rfl rfl rfl (Nat.le_of_ble_eq_true rfl) dX0_nearerTo_10 ?_
  refine z_isub (pc := 13) C dX0_nearerTo_13 ?_
  refine z_istore_n (pc := 14) (i := 2) (lv' := [(2, .int (q1 - q2)), (0, .ref (h 0)), (1, .int x1)]) C dX0_nearerTo_14 rfl (by decide) rfl ?_
  refine z_iload_n (pc := 15) (i := 2) C 0 dX0_nearerTo_15 rfl rfl ?_
  refine z_if_eq (pc := 16) C 45 dX0_nearerTo_16 (by decide) (fun hc3 => ?_) (fun hc3 => ?_)
  · have hf := bb_t hf hc3
    refine z_aload_n (pc := 45) (i := 0) C 1 dX0_nearerTo_45 rfl rfl ?_
    refine z_get (pc := 46) (ci := 0) C (.int (s0.1 3)) bi_X0 rfl 0 3 (by decide) rfl bf_X0_40 rfl rfl dX0_nearerTo_46 ?_
    refine z_iload_n (pc := 49) (i := 1) C 2 dX0_nearerTo_49 rfl rfl ?_
    refine z_aload_n (pc := 50) (i := 0) C 1 dX0_nearerTo_50 rfl rfl ?_
    refine z_get (pc := 51) (ci := 0) C (.int (s0.1 3)) bi_X0 rfl 0 3 (by decide) rfl bf_X0_40 rfl rfl dX0_nearerTo_51 ?_
    obtain ⟨q4, hq4, hf⟩ := bb_b_some hf
    refine z_callSi (pc := 54) (As := [.int x1, .int (s0.1 3)]) (rest := [.int (s0.1 3)]) C (hR.le (by decide)) (c_J6_compare_7cf53 hq4) (bb_cut_none _) bv_J6_compare_7cf53 bm_X0_108 rfl rfl (Nat.le_of_ble_eq_true rfl) dX0_nearerTo_54 ?_
    refine z_iadd (pc := 57) C dX0_nearerTo_57 ?_
    obtain rfl := Option.some.inj hf
    exact z_iret (pc := 58) C hr R dX0_nearerTo_58
  · have hf := bb_e hf hc3
    refine z_iload_n (pc := 19) (i := 2) C 0 dX0_nearerTo_19 rfl rfl ?_
    refine z_if_le (pc := 20) C 35 dX0_nearerTo_20 (by decide) (fun hc5 => ?_) (fun hc5 => ?_)
    · have hf := bb_t hf hc5
      refine z_aload_n (pc := 35) (i := 0) C 1 dX0_nearerTo_35 rfl rfl ?_
      refine z_get (pc := 36) (ci := 0) C (.int (s0.1 3)) bi_X0 rfl 0 3 (by decide) rfl bf_X0_40 rfl rfl dX0_nearerTo_36 ?_
      refine z_aload_n (pc := 39) (i := 0) C 1 dX0_nearerTo_39 rfl rfl ?_
      refine z_get (pc := 40) (ci := 0) C (.int (s0.1 1)) bi_X0 rfl 0 1 (by decide) rfl bf_X0_15 rfl rfl dX0_nearerTo_40 ?_
      refine z_isub (pc := 43) C dX0_nearerTo_43 ?_
      refine z_lv [] rfl ?_
      exact B_X0_nearerTo_44 C hR hr h R  hf
    · have hf := bb_e hf hc5
      refine z_aload_n (pc := 23) (i := 0) C 1 dX0_nearerTo_23 rfl rfl ?_
      refine z_get (pc := 24) (ci := 0) C (.int (s0.1 3)) bi_X0 rfl 0 3 (by decide) rfl bf_X0_40 rfl rfl dX0_nearerTo_24 ?_
      refine z_aload_n (pc := 27) (i := 0) C 1 dX0_nearerTo_27 rfl rfl ?_
      refine z_get (pc := 28) (ci := 0) C (.int (s0.1 1)) bi_X0 rfl 0 1 (by decide) rfl bf_X0_15 rfl rfl dX0_nearerTo_28 ?_
      refine z_iadd (pc := 31) C dX0_nearerTo_31 ?_
      refine z_goto (pc := 32) C 44 dX0_nearerTo_32 (by decide) ?_
      refine z_lv [] rfl ?_
      exact B_X0_nearerTo_44 C hR hr h R  hf
theorem c_X0_nearerTo {l : Launch} {D : va_G} {cs : Nat → ClassId} (h : Nat → Nat) {s0 : bb_O} {x1 : Int32} {z : Int32} (hf : F_X0_nearerTo_0 s0 x1 = some z) : bb_M l yX0_nearerTo cX0_nearerTo 3 (some .int) 2 D cs [.ref (h 0), .int x1] (some (.int z)) (wX0 cs h s0) (wX0 cs h s0) := bb_mg (by decide) rfl (Nat.le_of_ble_eq_true rfl) rfl (fun X hl hD hcs C hR hr R => by
  subst hl
  subst hD
  subst hcs
  exact B_X0_nearerTo_0 C hR hr h R hf)
/-! X0_firstOnHisCell: reads, level 2 -/
noncomputable def F_X0_firstOnHisCell_33 (s0 : bb_O) (k2 : Int32 → Option Int32) (x1 : Int32) : Option Int32 := k2 (x1 + 1)
set_option maxHeartbeats 4000000 in
set_option maxRecDepth 100000 in
theorem B_X0_firstOnHisCell_33 {X : bb_X} (C : bb_C X RX0 cX0_firstOnHisCell 2) (hR : bb_r X 2) (hr : X.meth.sig.returnType = (some .int)) (h : Nat → Nat) {z : Int32} {s0 : bb_O} (R : bb_R X (some (.int z)) (wX0 X.cs h s0)) {k2 : Int32 → Option Int32} (hk2 : ∀ (x1 : Int32), k2 x1 = some z → bb_Z X 2 (wX0 X.cs h s0) 2 [(0, .ref (h 0)), (1, .int x1)] []) {x1 : Int32} (hf : F_X0_firstOnHisCell_33 s0 k2 x1 = some z) : bb_Z X 2 (wX0 X.cs h s0) 33 [(0, .ref (h 0)), (1, .int x1)] [] := by
  refine z_iinc (pc := 33) (lv' := [(1, .int (x1 + 1)), (0, .ref (h 0))]) C (x1 + 1) 1 dX0_firstOnHisCell_33 rfl rfl (by decide) rfl ?_
  refine z_goto (pc := 36) C 2 dX0_firstOnHisCell_36 (by decide) ?_
  refine z_lv [1, 0] rfl ?_
  exact hk2 _ hf
noncomputable def G_X0_firstOnHisCell_2 (s0 : bb_O) (k2 : Int32 → Option Int32) (x1 : Int32) : Option Int32 := if (s0.1 2) ≤ x1 then (some ((-4 : Int32))) else ((F_X0_isFree_0 s0 x1).bind (fun q2 => if q2 = 0 then (F_X0_firstOnHisCell_33 s0 k2 x1) else (bb_g (vp_in x1 6) (if (s0.2.1 10 x1.toNatClampNeg) = (s0.1 3) then (some x1) else (F_X0_firstOnHisCell_33 s0 k2 x1)))))
noncomputable def F_X0_firstOnHisCell_2 (s0 : bb_O) : Nat → Int32 → Option Int32
  | 0, _ => none
  | n + 1, x1 => G_X0_firstOnHisCell_2 s0 (F_X0_firstOnHisCell_2 s0 n) x1
set_option maxHeartbeats 4000000 in
set_option maxRecDepth 100000 in
theorem A_X0_firstOnHisCell_2 {X : bb_X} (C : bb_C X RX0 cX0_firstOnHisCell 2) (hR : bb_r X 2) (hr : X.meth.sig.returnType = (some .int)) (h : Nat → Nat) {z : Int32} {s0 : bb_O} (R : bb_R X (some (.int z)) (wX0 X.cs h s0)) {k2 : Int32 → Option Int32} (hk2 : ∀ (x1 : Int32), k2 x1 = some z → bb_Z X 2 (wX0 X.cs h s0) 2 [(0, .ref (h 0)), (1, .int x1)] []) {x1 : Int32} (hf : G_X0_firstOnHisCell_2 s0 k2 x1 = some z) : bb_Z X 2 (wX0 X.cs h s0) 2 [(0, .ref (h 0)), (1, .int x1)] [] := by
  refine z_iload_n (pc := 2) (i := 1) C 1 dX0_firstOnHisCell_2 rfl rfl ?_
  refine z_aload_n (pc := 3) (i := 0) C 0 dX0_firstOnHisCell_3 rfl rfl ?_
  refine z_get (pc := 4) (ci := 0) C (.int (s0.1 2)) bi_X0 rfl 0 2 (by decide) rfl bf_X0_37 rfl rfl dX0_firstOnHisCell_4 ?_
  refine z_icmp_ge (pc := 7) C 39 dX0_firstOnHisCell_7 (by decide) (fun hc1 => ?_) (fun hc1 => ?_)
  · have hf := bb_t hf hc1
    refine z_bipush (pc := 39) C (-4 : Int32) dX0_firstOnHisCell_39 (by decide) ?_
    obtain rfl := Option.some.inj hf
    exact z_iret (pc := 41) C hr R dX0_firstOnHisCell_41
  · have hf := bb_e hf hc1
    refine z_aload_n (pc := 10) (i := 0) C 0 dX0_firstOnHisCell_10 rfl rfl ?_
    refine z_iload_n (pc := 11) (i := 1) C 1 dX0_firstOnHisCell_11 rfl rfl ?_
    obtain ⟨q2, hq2, hf⟩ := bb_b_some hf
    refine z_callVi (pc := 12) (ci := 0) (q0 := 0) (As := [.int x1]) (rest := []) C (hR.le (by decide)) (c_X0_isFree h hq2) (bb_cut_self _ _) bv_X0_isFree bm_X0_80 rfl rfl rfl rfl (Nat.le_of_ble_eq_true rfl) dX0_firstOnHisCell_12 ?_
    refine z_if_eq (pc := 15) C 33 dX0_firstOnHisCell_15 (by decide) (fun hc3 => ?_) (fun hc3 => ?_)
    · have hf := bb_t hf hc3
      exact B_X0_firstOnHisCell_33 C hR hr h R hk2 hf
    · have hf := bb_e hf hc3
      refine z_aload_n (pc := 18) (i := 0) C 0 dX0_firstOnHisCell_18 rfl rfl ?_
      refine z_get (pc := 19) (ci := 0) C (.ref (h 11)) bi_X0 rfl 0 10 (by decide) rfl bf_X0_25 rfl rfl dX0_firstOnHisCell_19 ?_
      refine z_iload_n (pc := 22) (i := 1) C 1 dX0_firstOnHisCell_22 rfl rfl ?_
      obtain ⟨hv4, hf⟩ := bb_g_some hf
      refine z_iald (pc := 23) C 2 0 (x1.toNatClampNeg) rfl rfl hv4 rfl dX0_firstOnHisCell_23 ?_
      refine z_aload_n (pc := 24) (i := 0) C 0 dX0_firstOnHisCell_24 rfl rfl ?_
      refine z_get (pc := 25) (ci := 0) C (.int (s0.1 3)) bi_X0 rfl 0 3 (by decide) rfl bf_X0_40 rfl rfl dX0_firstOnHisCell_25 ?_
      refine z_icmp_ne (pc := 28) C 33 dX0_firstOnHisCell_28 (by decide) (fun hc5 => ?_) (fun hc5 => ?_)
      · have hf := bb_e hf hc5
        exact B_X0_firstOnHisCell_33 C hR hr h R hk2 hf
      · have hf := bb_t hf hc5
        refine z_iload_n (pc := 31) (i := 1) C 1 dX0_firstOnHisCell_31 rfl rfl ?_
        obtain rfl := Option.some.inj hf
        exact z_iret (pc := 32) C hr R dX0_firstOnHisCell_32
theorem B_X0_firstOnHisCell_2 {X : bb_X} (C : bb_C X RX0 cX0_firstOnHisCell 2) (hR : bb_r X 2) (hr : X.meth.sig.returnType = (some .int)) (h : Nat → Nat) {z : Int32} {s0 : bb_O} (R : bb_R X (some (.int z)) (wX0 X.cs h s0)) : ∀ (n : Nat) (x1 : Int32), F_X0_firstOnHisCell_2 s0 n x1 = some z → bb_Z X 2 (wX0 X.cs h s0) 2 [(0, .ref (h 0)), (1, .int x1)] [] := by
  intro n
  induction n with
  | zero =>
    intro x1 hf
    cases hf
  | succ n ih =>
    intro x1 hf
    exact A_X0_firstOnHisCell_2 C hR hr h R  ih hf
noncomputable def F_X0_firstOnHisCell_0 (s0 : bb_O) : Option Int32 := F_X0_firstOnHisCell_2 s0 bb_N ((0 : Int32))
set_option maxHeartbeats 4000000 in
set_option maxRecDepth 100000 in
theorem B_X0_firstOnHisCell_0 {X : bb_X} (C : bb_C X RX0 cX0_firstOnHisCell 2) (hR : bb_r X 2) (hr : X.meth.sig.returnType = (some .int)) (h : Nat → Nat) {z : Int32} {s0 : bb_O} (R : bb_R X (some (.int z)) (wX0 X.cs h s0))  (hf : F_X0_firstOnHisCell_0 s0 = some z) : bb_Z X 2 (wX0 X.cs h s0) 0 [(0, .ref (h 0))] [] := by
  refine z_iconst (pc := 0) C (0 : Int32) dX0_firstOnHisCell_0 (by decide) ?_
  refine z_istore_n (pc := 1) (i := 1) (lv' := [(1, .int ((0 : Int32))), (0, .ref (h 0))]) C dX0_firstOnHisCell_1 rfl (by decide) rfl ?_
  refine z_lv [1, 0] rfl ?_
  exact B_X0_firstOnHisCell_2 C hR hr h R  bb_N _ hf
theorem c_X0_firstOnHisCell {l : Launch} {D : va_G} {cs : Nat → ClassId} (h : Nat → Nat) {s0 : bb_O} {z : Int32} (hf : F_X0_firstOnHisCell_0 s0 = some z) : bb_M l yX0_firstOnHisCell cX0_firstOnHisCell 2 (some .int) 2 D cs [.ref (h 0)] (some (.int z)) (wX0 cs h s0) (wX0 cs h s0) := bb_mg (by decide) rfl (Nat.le_of_ble_eq_true rfl) rfl (fun X hl hD hcs C hR hr R => by
  subst hl
  subst hD
  subst hcs
  exact B_X0_firstOnHisCell_0 C hR hr h R hf)
/-! X0_pass: writes, level 5 -/
noncomputable def F_X0_pass_84 (s0 : bb_O) (x2 : Int32) : Option (Int32 × bb_O) := some (x2, bb_sf s0 5 ((s0.1 5) + ((1 : Int32))))
set_option maxHeartbeats 4000000 in
set_option maxRecDepth 100000 in
theorem B_X0_pass_84 {X : bb_X} (C : bb_C X RX0 cX0_pass 3) (hR : bb_r X 5) (hr : X.meth.sig.returnType = (some .int)) (h : Nat → Nat) {z : (Int32 × bb_O)} (R : bb_R X (some (.int z.1)) (wX0 X.cs h z.2)) {s0 : bb_O} {x2 : Int32} (hf : F_X0_pass_84 s0 x2 = some z) : bb_Z X 3 (wX0 X.cs h s0) 84 [(0, .ref (h 0)), (2, .int x2)] [] := by
  refine z_aload_n (pc := 84) (i := 0) C 0 dX0_pass_84 rfl rfl ?_
  refine z_dup (pc := 85) C dX0_pass_85 rfl ?_
  refine z_get (pc := 86) (ci := 0) C (.int (s0.1 5)) bi_X0 rfl 0 5 (by decide) rfl bf_X0_46 rfl rfl dX0_pass_86 ?_
  refine z_iconst (pc := 89) C (1 : Int32) dX0_pass_89 (by decide) ?_
  refine z_iadd (pc := 90) C dX0_pass_90 ?_
  refine z_put (pc := 91) (ci := 0) (ty := .int) (ws' := wX0 X.cs h (bb_sf s0 5 ((s0.1 5) + ((1 : Int32))))) C bi_X0 tyX0_ok nmX0 rfl 0 5 (by decide) rfl bf_X0_46 rfl rfl rfl rfl rfl (Nat.le_of_ble_eq_true rfl) rfl dX0_pass_91 ?_
  refine z_iload_n (pc := 94) (i := 2) C 1 dX0_pass_94 rfl rfl ?_
  obtain rfl := Option.some.inj hf
  exact z_iret (pc := 95) C hr R dX0_pass_95
noncomputable def F_X0_pass_71 (s0 : bb_O) (x2 : Int32) : Option (Int32 × bb_O) := F_X0_pass_84 s0 x2
set_option maxHeartbeats 4000000 in
set_option maxRecDepth 100000 in
theorem B_X0_pass_71 {X : bb_X} (C : bb_C X RX0 cX0_pass 3) (hR : bb_r X 5) (hr : X.meth.sig.returnType = (some .int)) (h : Nat → Nat) {z : (Int32 × bb_O)} (R : bb_R X (some (.int z.1)) (wX0 X.cs h z.2)) {s0 : bb_O} {x2 : Int32} (hf : F_X0_pass_71 s0 x2 = some z) : bb_Z X 3 (wX0 X.cs h s0) 71 [(0, .ref (h 0)), (2, .int x2)] [] := by
  refine z_goto (pc := 71) C 84 dX0_pass_71 (by decide) ?_
  exact B_X0_pass_84 C hR hr h R  hf
noncomputable def F_X0_pass_25 (s0 : bb_O) : Option (Int32 × bb_O) := (F_X0_firstOnHisCell_0 s0).bind (fun q1 => if q1 = ((-4 : Int32)) then (F_X0_pass_84 s0 q1) else ((F_X0_feel_0 (bb_sf s0 4 ((s0.1 4) ||| (((1 : Int32)) <<< (q1 &&& 31)))) q1).bind (fun q3 => (F_X0_namedBy_0 (bb_sf s0 4 ((s0.1 4) ||| (((1 : Int32)) <<< (q1 &&& 31)))) q3).bind (fun q4 => if q4 = q1 then (F_X0_pass_71 (bb_sf (bb_sf s0 4 ((s0.1 4) ||| (((1 : Int32)) <<< (q1 &&& 31)))) 6 (((bb_sf s0 4 ((s0.1 4) ||| (((1 : Int32)) <<< (q1 &&& 31)))).1 6) + ((1 : Int32)))) q1) else (F_X0_pass_84 (bb_sf (bb_sf s0 4 ((s0.1 4) ||| (((1 : Int32)) <<< (q1 &&& 31)))) 7 (((bb_sf s0 4 ((s0.1 4) ||| (((1 : Int32)) <<< (q1 &&& 31)))).1 7) + ((1 : Int32)))) q1)))))
set_option maxHeartbeats 4000000 in
set_option maxRecDepth 100000 in
theorem B_X0_pass_25 {X : bb_X} (C : bb_C X RX0 cX0_pass 3) (hR : bb_r X 5) (hr : X.meth.sig.returnType = (some .int)) (h : Nat → Nat) {z : (Int32 × bb_O)} (R : bb_R X (some (.int z.1)) (wX0 X.cs h z.2)) {s0 : bb_O} (hf : F_X0_pass_25 s0 = some z) : bb_Z X 3 (wX0 X.cs h s0) 25 [(0, .ref (h 0))] [] := by
  refine z_aload_n (pc := 25) (i := 0) C 0 dX0_pass_25 rfl rfl ?_
  obtain ⟨q1, hq1, hf⟩ := bb_b_some hf
  refine z_callVi (pc := 26) (ci := 0) (q0 := 0) (As := []) (rest := []) C (hR.le (by decide)) (c_X0_firstOnHisCell h hq1) (bb_cut_self _ _) bv_X0_firstOnHisCell bm_X0_99 rfl rfl rfl rfl (Nat.le_of_ble_eq_true rfl) dX0_pass_26 ?_
  refine z_istore_n (pc := 29) (i := 2) (lv' := [(2, .int q1), (0, .ref (h 0))]) C dX0_pass_29 rfl (by decide) rfl ?_
  refine z_iload_n (pc := 30) (i := 2) C 0 dX0_pass_30 rfl rfl ?_
  refine z_bipush (pc := 31) C (-4 : Int32) dX0_pass_31 (by decide) ?_
  refine z_icmp_eq (pc := 33) C 84 dX0_pass_33 (by decide) (fun hc2 => ?_) (fun hc2 => ?_)
  · have hf := bb_t hf hc2
    refine z_lv [1, 0] rfl ?_
    exact B_X0_pass_84 C hR hr h R  hf
  · have hf := bb_e hf hc2
    refine z_aload_n (pc := 36) (i := 0) C 1 dX0_pass_36 rfl rfl ?_
    refine z_dup (pc := 37) C dX0_pass_37 rfl ?_
    refine z_get (pc := 38) (ci := 0) C (.int (s0.1 4)) bi_X0 rfl 0 4 (by decide) rfl bf_X0_43 rfl rfl dX0_pass_38 ?_
    refine z_iconst (pc := 41) C (1 : Int32) dX0_pass_41 (by decide) ?_
    refine z_iload_n (pc := 42) (i := 2) C 0 dX0_pass_42 rfl rfl ?_
    refine z_ishl (pc := 43) C dX0_pass_43 ?_
    refine z_ior (pc := 44) C dX0_pass_44 ?_
    refine z_put (pc := 45) (ci := 0) (ty := .int) (ws' := wX0 X.cs h (bb_sf s0 4 ((s0.1 4) ||| (((1 : Int32)) <<< (q1 &&& 31))))) C bi_X0 tyX0_ok nmX0 rfl 0 4 (by decide) rfl bf_X0_43 rfl rfl rfl rfl rfl (Nat.le_of_ble_eq_true rfl) rfl dX0_pass_45 ?_
    refine z_aload_n (pc := 48) (i := 0) C 1 dX0_pass_48 rfl rfl ?_
    refine z_aload_n (pc := 49) (i := 0) C 1 dX0_pass_49 rfl rfl ?_
    refine z_iload_n (pc := 50) (i := 2) C 0 dX0_pass_50 rfl rfl ?_
    obtain ⟨q3, hq3, hf⟩ := bb_b_some hf
    refine z_callVi (pc := 51) (ci := 0) (q0 := 0) (As := [.int q1]) (rest := [.ref (h 0)]) C (hR.le (by decide)) (c_X0_feel h hq3) (bb_cut_self _ _) bv_X0_feel bm_X0_102 rfl rfl rfl rfl (Nat.le_of_ble_eq_true rfl) dX0_pass_51 ?_
    obtain ⟨q4, hq4, hf⟩ := bb_b_some hf
    refine z_callVi (pc := 54) (ci := 0) (q0 := 0) (As := [.int q3]) (rest := []) C (hR.le (by decide)) (c_X0_namedBy h hq4) (bb_cut_self _ _) bv_X0_namedBy bm_X0_105 rfl rfl rfl rfl (Nat.le_of_ble_eq_true rfl) dX0_pass_54 ?_
    refine z_iload_n (pc := 57) (i := 2) C 0 dX0_pass_57 rfl rfl ?_
    refine z_icmp_ne (pc := 58) C 74 dX0_pass_58 (by decide) (fun hc5 => ?_) (fun hc5 => ?_)
    · have hf := bb_e hf hc5
      refine z_aload_n (pc := 74) (i := 0) C 1 dX0_pass_74 rfl rfl ?_
      refine z_dup (pc := 75) C dX0_pass_75 rfl ?_
      refine z_get (pc := 76) (ci := 0) C (.int ((bb_sf s0 4 ((s0.1 4) ||| (((1 : Int32)) <<< (q1 &&& 31)))).1 7)) bi_X0 rfl 0 7 (by decide) rfl bf_X0_52 rfl rfl dX0_pass_76 ?_
      refine z_iconst (pc := 79) C (1 : Int32) dX0_pass_79 (by decide) ?_
      refine z_iadd (pc := 80) C dX0_pass_80 ?_
      refine z_put (pc := 81) (ci := 0) (ty := .int) (ws' := wX0 X.cs h (bb_sf (bb_sf s0 4 ((s0.1 4) ||| (((1 : Int32)) <<< (q1 &&& 31)))) 7 (((bb_sf s0 4 ((s0.1 4) ||| (((1 : Int32)) <<< (q1 &&& 31)))).1 7) + ((1 : Int32))))) C bi_X0 tyX0_ok nmX0 rfl 0 7 (by decide) rfl bf_X0_52 rfl rfl rfl rfl rfl (Nat.le_of_ble_eq_true rfl) rfl dX0_pass_81 ?_
      refine z_lv [1, 0] rfl ?_
      exact B_X0_pass_84 C hR hr h R  hf
    · have hf := bb_t hf hc5
      refine z_aload_n (pc := 61) (i := 0) C 1 dX0_pass_61 rfl rfl ?_
      refine z_dup (pc := 62) C dX0_pass_62 rfl ?_
      refine z_get (pc := 63) (ci := 0) C (.int ((bb_sf s0 4 ((s0.1 4) ||| (((1 : Int32)) <<< (q1 &&& 31)))).1 6)) bi_X0 rfl 0 6 (by decide) rfl bf_X0_49 rfl rfl dX0_pass_63 ?_
      refine z_iconst (pc := 66) C (1 : Int32) dX0_pass_66 (by decide) ?_
      refine z_iadd (pc := 67) C dX0_pass_67 ?_
      refine z_put (pc := 68) (ci := 0) (ty := .int) (ws' := wX0 X.cs h (bb_sf (bb_sf s0 4 ((s0.1 4) ||| (((1 : Int32)) <<< (q1 &&& 31)))) 6 (((bb_sf s0 4 ((s0.1 4) ||| (((1 : Int32)) <<< (q1 &&& 31)))).1 6) + ((1 : Int32))))) C bi_X0 tyX0_ok nmX0 rfl 0 6 (by decide) rfl bf_X0_49 rfl rfl rfl rfl rfl (Nat.le_of_ble_eq_true rfl) rfl dX0_pass_68 ?_
      refine z_lv [1, 0] rfl ?_
      exact B_X0_pass_71 C hR hr h R  hf
noncomputable def F_X0_pass_0 (s0 : bb_O) : Option (Int32 × bb_O) := (F_X0_followed_0 s0).bind (fun q1 => if q1 = ((-4 : Int32)) then (F_X0_pass_25 s0) else (bb_g (vp_in q1 6) ((F_X0_nearerTo_0 s0 (s0.2.1 10 q1.toNatClampNeg)).bind (fun q4 => F_X0_pass_25 (bb_sf s0 3 q4)))))
set_option maxHeartbeats 4000000 in
set_option maxRecDepth 100000 in
theorem B_X0_pass_0 {X : bb_X} (C : bb_C X RX0 cX0_pass 3) (hR : bb_r X 5) (hr : X.meth.sig.returnType = (some .int)) (h : Nat → Nat) {z : (Int32 × bb_O)} (R : bb_R X (some (.int z.1)) (wX0 X.cs h z.2)) {s0 : bb_O} (hf : F_X0_pass_0 s0 = some z) : bb_Z X 3 (wX0 X.cs h s0) 0 [(0, .ref (h 0))] [] := by
  refine z_aload_n (pc := 0) (i := 0) C 0 dX0_pass_0 rfl rfl ?_
  obtain ⟨q1, hq1, hf⟩ := bb_b_some hf
  refine z_callVi (pc := 1) (ci := 0) (q0 := 0) (As := []) (rest := []) C (hR.le (by decide)) (c_X0_followed h hq1) (bb_cut_self _ _) bv_X0_followed bm_X0_92 rfl rfl rfl rfl (Nat.le_of_ble_eq_true rfl) dX0_pass_1 ?_
  refine z_istore_n (pc := 4) (i := 1) (lv' := [(1, .int q1), (0, .ref (h 0))]) C dX0_pass_4 rfl (by decide) rfl ?_
  refine z_iload_n (pc := 5) (i := 1) C 0 dX0_pass_5 rfl rfl ?_
  refine z_bipush (pc := 6) C (-4 : Int32) dX0_pass_6 (by decide) ?_
  refine z_icmp_eq (pc := 8) C 25 dX0_pass_8 (by decide) (fun hc2 => ?_) (fun hc2 => ?_)
  · have hf := bb_t hf hc2
    refine z_lv [1] rfl ?_
    exact B_X0_pass_25 C hR hr h R  hf
  · have hf := bb_e hf hc2
    refine z_aload_n (pc := 11) (i := 0) C 1 dX0_pass_11 rfl rfl ?_
    refine z_aload_n (pc := 12) (i := 0) C 1 dX0_pass_12 rfl rfl ?_
    refine z_aload_n (pc := 13) (i := 0) C 1 dX0_pass_13 rfl rfl ?_
    refine z_get (pc := 14) (ci := 0) C (.ref (h 11)) bi_X0 rfl 0 10 (by decide) rfl bf_X0_25 rfl rfl dX0_pass_14 ?_
    refine z_iload_n (pc := 17) (i := 1) C 0 dX0_pass_17 rfl rfl ?_
    obtain ⟨hv3, hf⟩ := bb_g_some hf
    refine z_iald (pc := 18) C 2 0 (q1.toNatClampNeg) rfl rfl hv3 rfl dX0_pass_18 ?_
    obtain ⟨q4, hq4, hf⟩ := bb_b_some hf
    refine z_callVi (pc := 19) (ci := 0) (q0 := 0) (As := [.int (s0.2.1 10 q1.toNatClampNeg)]) (rest := [.ref (h 0)]) C (hR.le (by decide)) (c_X0_nearerTo h hq4) (bb_cut_self _ _) bv_X0_nearerTo bm_X0_96 rfl rfl rfl rfl (Nat.le_of_ble_eq_true rfl) dX0_pass_19 ?_
    refine z_put (pc := 22) (ci := 0) (ty := .int) (ws' := wX0 X.cs h (bb_sf s0 3 q4)) C bi_X0 tyX0_ok nmX0 rfl 0 3 (by decide) rfl bf_X0_40 rfl rfl rfl rfl rfl (Nat.le_of_ble_eq_true rfl) rfl dX0_pass_22 ?_
    refine z_lv [1] rfl ?_
    exact B_X0_pass_25 C hR hr h R  hf
theorem c_X0_pass {l : Launch} {D : va_G} {cs : Nat → ClassId} (h : Nat → Nat) {s0 : bb_O} {z : (Int32 × bb_O)} (hf : F_X0_pass_0 s0 = some z) : bb_M l yX0_pass cX0_pass 3 (some .int) 5 D cs [.ref (h 0)] (some (.int z.1)) (wX0 cs h s0) (wX0 cs h z.2) := bb_mg (by decide) rfl (Nat.le_of_ble_eq_true rfl) rfl (fun X hl hD hcs C hR hr R => by
  subst hl
  subst hD
  subst hcs
  exact B_X0_pass_0 C hR hr h R hf)
/-! X0_passUntilCaught: writes, level 6 -/
noncomputable def F_X0_passUntilCaught_28 (s0 : bb_O) (x1 : Int32) : Option (Int32 × bb_O) := some (x1, s0)
set_option maxHeartbeats 4000000 in
set_option maxRecDepth 100000 in
theorem B_X0_passUntilCaught_28 {X : bb_X} (C : bb_C X RX0 cX0_passUntilCaught 3) (hR : bb_r X 6) (hr : X.meth.sig.returnType = (some .int)) (h : Nat → Nat) {z : (Int32 × bb_O)} (R : bb_R X (some (.int z.1)) (wX0 X.cs h z.2)) {s0 : bb_O} {x1 : Int32} (hf : F_X0_passUntilCaught_28 s0 x1 = some z) : bb_Z X 3 (wX0 X.cs h s0) 28 [(1, .int x1)] [] := by
  refine z_iload_n (pc := 28) (i := 1) C 0 dX0_passUntilCaught_28 rfl rfl ?_
  obtain rfl := Option.some.inj hf
  exact z_iret (pc := 29) C hr R dX0_passUntilCaught_29
noncomputable def G_X0_passUntilCaught_5 (k5 : bb_O → Int32 → Int32 → Option (Int32 × bb_O)) (s0 : bb_O) (x1 : Int32) (x2 : Int32) : Option (Int32 × bb_O) := if ((60 : Int32)) ≤ x2 then (F_X0_passUntilCaught_28 s0 x1) else (if x1 = ((-4 : Int32)) then ((F_X0_pass_0 s0).bind (fun q3 => k5 q3.2 q3.1 (x2 + 1))) else (F_X0_passUntilCaught_28 s0 x1))
noncomputable def F_X0_passUntilCaught_5  : Nat → bb_O → Int32 → Int32 → Option (Int32 × bb_O)
  | 0, _, _, _ => none
  | n + 1, s0, x1, x2 => G_X0_passUntilCaught_5  (F_X0_passUntilCaught_5  n) s0 x1 x2
set_option maxHeartbeats 4000000 in
set_option maxRecDepth 100000 in
theorem A_X0_passUntilCaught_5 {X : bb_X} (C : bb_C X RX0 cX0_passUntilCaught 3) (hR : bb_r X 6) (hr : X.meth.sig.returnType = (some .int)) (h : Nat → Nat) {z : (Int32 × bb_O)} (R : bb_R X (some (.int z.1)) (wX0 X.cs h z.2)) {k5 : bb_O → Int32 → Int32 → Option (Int32 × bb_O)} (hk5 : ∀ (s0 : bb_O) (x1 : Int32) (x2 : Int32), k5 s0 x1 x2 = some z → bb_Z X 3 (wX0 X.cs h s0) 5 [(0, .ref (h 0)), (1, .int x1), (2, .int x2)] []) {s0 : bb_O} {x1 : Int32} {x2 : Int32} (hf : G_X0_passUntilCaught_5 k5 s0 x1 x2 = some z) : bb_Z X 3 (wX0 X.cs h s0) 5 [(0, .ref (h 0)), (1, .int x1), (2, .int x2)] [] := by
  refine z_iload_n (pc := 5) (i := 2) C 2 dX0_passUntilCaught_5 rfl rfl ?_
  refine z_bipush (pc := 6) C (60 : Int32) dX0_passUntilCaught_6 (by decide) ?_
  refine z_icmp_ge (pc := 8) C 28 dX0_passUntilCaught_8 (by decide) (fun hc1 => ?_) (fun hc1 => ?_)
  · have hf := bb_t hf hc1
    refine z_lv [1] rfl ?_
    exact B_X0_passUntilCaught_28 C hR hr h R  hf
  · have hf := bb_e hf hc1
    refine z_iload_n (pc := 11) (i := 1) C 1 dX0_passUntilCaught_11 rfl rfl ?_
    refine z_bipush (pc := 12) C (-4 : Int32) dX0_passUntilCaught_12 (by decide) ?_
    refine z_icmp_ne (pc := 14) C 28 dX0_passUntilCaught_14 (by decide) (fun hc2 => ?_) (fun hc2 => ?_)
    · have hf := bb_e hf hc2
      refine z_lv [1] rfl ?_
      exact B_X0_passUntilCaught_28 C hR hr h R  hf
    · have hf := bb_t hf hc2
      refine z_aload_n (pc := 17) (i := 0) C 0 dX0_passUntilCaught_17 rfl rfl ?_
      obtain ⟨q3, hq3, hf⟩ := bb_b_some hf
      refine z_callVi (pc := 18) (ci := 0) (q0 := 0) (As := []) (rest := []) (ws' := wX0 X.cs h q3.2) C (hR.le (by decide)) (c_X0_pass h hq3) (bb_cut_self _ _) bv_X0_pass bm_X0_111 rfl rfl rfl rfl (Nat.le_of_ble_eq_true rfl) dX0_passUntilCaught_18 ?_
      refine z_istore_n (pc := 21) (i := 1) (lv' := [(1, .int q3.1), (0, .ref (h 0)), (2, .int x2)]) C dX0_passUntilCaught_21 rfl (by decide) rfl ?_
      refine z_iinc (pc := 22) (lv' := [(2, .int (x2 + 1)), (1, .int q3.1), (0, .ref (h 0))]) C (x2 + 1) 2 dX0_passUntilCaught_22 rfl rfl (by decide) rfl ?_
      refine z_goto (pc := 25) C 5 dX0_passUntilCaught_25 (by decide) ?_
      refine z_lv [2, 1, 0] rfl ?_
      exact hk5 _ _ _ hf
theorem B_X0_passUntilCaught_5 {X : bb_X} (C : bb_C X RX0 cX0_passUntilCaught 3) (hR : bb_r X 6) (hr : X.meth.sig.returnType = (some .int)) (h : Nat → Nat) {z : (Int32 × bb_O)} (R : bb_R X (some (.int z.1)) (wX0 X.cs h z.2)) : ∀ (n : Nat) (s0 : bb_O) (x1 : Int32) (x2 : Int32), F_X0_passUntilCaught_5  n s0 x1 x2 = some z → bb_Z X 3 (wX0 X.cs h s0) 5 [(0, .ref (h 0)), (1, .int x1), (2, .int x2)] [] := by
  intro n
  induction n with
  | zero =>
    intro s0 x1 x2 hf
    cases hf
  | succ n ih =>
    intro s0 x1 x2 hf
    exact A_X0_passUntilCaught_5 C hR hr h R  ih hf
noncomputable def F_X0_passUntilCaught_0 (s0 : bb_O) : Option (Int32 × bb_O) := F_X0_passUntilCaught_5 bb_N s0 ((-4 : Int32)) ((0 : Int32))
set_option maxHeartbeats 4000000 in
set_option maxRecDepth 100000 in
theorem B_X0_passUntilCaught_0 {X : bb_X} (C : bb_C X RX0 cX0_passUntilCaught 3) (hR : bb_r X 6) (hr : X.meth.sig.returnType = (some .int)) (h : Nat → Nat) {z : (Int32 × bb_O)} (R : bb_R X (some (.int z.1)) (wX0 X.cs h z.2)) {s0 : bb_O} (hf : F_X0_passUntilCaught_0 s0 = some z) : bb_Z X 3 (wX0 X.cs h s0) 0 [(0, .ref (h 0))] [] := by
  refine z_bipush (pc := 0) C (-4 : Int32) dX0_passUntilCaught_0 (by decide) ?_
  refine z_istore_n (pc := 2) (i := 1) (lv' := [(1, .int ((-4 : Int32))), (0, .ref (h 0))]) C dX0_passUntilCaught_2 rfl (by decide) rfl ?_
  refine z_iconst (pc := 3) C (0 : Int32) dX0_passUntilCaught_3 (by decide) ?_
  refine z_istore_n (pc := 4) (i := 2) (lv' := [(2, .int ((0 : Int32))), (1, .int ((-4 : Int32))), (0, .ref (h 0))]) C dX0_passUntilCaught_4 rfl (by decide) rfl ?_
  refine z_lv [2, 1, 0] rfl ?_
  exact B_X0_passUntilCaught_5 C hR hr h R  bb_N _ _ _ hf
theorem c_X0_passUntilCaught {l : Launch} {D : va_G} {cs : Nat → ClassId} (h : Nat → Nat) {s0 : bb_O} {z : (Int32 × bb_O)} (hf : F_X0_passUntilCaught_0 s0 = some z) : bb_M l yX0_passUntilCaught cX0_passUntilCaught 3 (some .int) 6 D cs [.ref (h 0)] (some (.int z.1)) (wX0 cs h s0) (wX0 cs h z.2) := bb_mg (by decide) rfl (Nat.le_of_ble_eq_true rfl) rfl (fun X hl hD hcs C hR hr R => by
  subst hl
  subst hD
  subst hcs
  exact B_X0_passUntilCaught_0 C hR hr h R hf)
/-! X0_behindHowMany: writes, level 6 -/
noncomputable def G_X0_behindHowMany_2 (k2 : bb_O → Int32 → Int32 → Int32 → Option (Int32 × bb_O)) (s0 : bb_O) (x1 : Int32) (x2 : Int32) (x3 : Int32) : Option (Int32 × bb_O) := if x2 < x3 then (some (x2 + ((1 : Int32)), s0)) else ((F_X0_pass_0 s0).bind (fun q2 => if q2.1 = x1 then (some (x3, q2.2)) else (k2 q2.2 x1 x2 (x3 + 1))))
noncomputable def F_X0_behindHowMany_2  : Nat → bb_O → Int32 → Int32 → Int32 → Option (Int32 × bb_O)
  | 0, _, _, _, _ => none
  | n + 1, s0, x1, x2, x3 => G_X0_behindHowMany_2  (F_X0_behindHowMany_2  n) s0 x1 x2 x3
set_option maxHeartbeats 4000000 in
set_option maxRecDepth 100000 in
theorem A_X0_behindHowMany_2 {X : bb_X} (C : bb_C X RX0 cX0_behindHowMany 4) (hR : bb_r X 6) (hr : X.meth.sig.returnType = (some .int)) (h : Nat → Nat) {z : (Int32 × bb_O)} (R : bb_R X (some (.int z.1)) (wX0 X.cs h z.2)) {k2 : bb_O → Int32 → Int32 → Int32 → Option (Int32 × bb_O)} (hk2 : ∀ (s0 : bb_O) (x1 : Int32) (x2 : Int32) (x3 : Int32), k2 s0 x1 x2 x3 = some z → bb_Z X 4 (wX0 X.cs h s0) 2 [(0, .ref (h 0)), (1, .int x1), (2, .int x2), (3, .int x3)] []) {s0 : bb_O} {x1 : Int32} {x2 : Int32} {x3 : Int32} (hf : G_X0_behindHowMany_2 k2 s0 x1 x2 x3 = some z) : bb_Z X 4 (wX0 X.cs h s0) 2 [(0, .ref (h 0)), (1, .int x1), (2, .int x2), (3, .int x3)] [] := by
  refine z_iload_n (pc := 2) (i := 3) C 3 dX0_behindHowMany_2 rfl rfl ?_
  refine z_iload_n (pc := 3) (i := 2) C 2 dX0_behindHowMany_3 rfl rfl ?_
  refine z_icmp_gt (pc := 4) C 23 dX0_behindHowMany_4 (by decide) (fun hc1 => ?_) (fun hc1 => ?_)
  · have hf := bb_t hf hc1
    refine z_iload_n (pc := 23) (i := 2) C 2 dX0_behindHowMany_23 rfl rfl ?_
    refine z_iconst (pc := 24) C (1 : Int32) dX0_behindHowMany_24 (by decide) ?_
    refine z_iadd (pc := 25) C dX0_behindHowMany_25 ?_
    obtain rfl := Option.some.inj hf
    exact z_iret (pc := 26) C hr R dX0_behindHowMany_26
  · have hf := bb_e hf hc1
    refine z_aload_n (pc := 7) (i := 0) C 0 dX0_behindHowMany_7 rfl rfl ?_
    obtain ⟨q2, hq2, hf⟩ := bb_b_some hf
    refine z_callVi (pc := 8) (ci := 0) (q0 := 0) (As := []) (rest := []) (ws' := wX0 X.cs h q2.2) C (hR.le (by decide)) (c_X0_pass h hq2) (bb_cut_self _ _) bv_X0_pass bm_X0_111 rfl rfl rfl rfl (Nat.le_of_ble_eq_true rfl) dX0_behindHowMany_8 ?_
    refine z_iload_n (pc := 11) (i := 1) C 1 dX0_behindHowMany_11 rfl rfl ?_
    refine z_icmp_ne (pc := 12) C 17 dX0_behindHowMany_12 (by decide) (fun hc3 => ?_) (fun hc3 => ?_)
    · have hf := bb_e hf hc3
      refine z_iinc (pc := 17) (lv' := [(3, .int (x3 + 1)), (0, .ref (h 0)), (1, .int x1), (2, .int x2)]) C (x3 + 1) 3 dX0_behindHowMany_17 rfl rfl (by decide) rfl ?_
      refine z_goto (pc := 20) C 2 dX0_behindHowMany_20 (by decide) ?_
      refine z_lv [1, 2, 3, 0] rfl ?_
      exact hk2 _ _ _ _ hf
    · have hf := bb_t hf hc3
      refine z_iload_n (pc := 15) (i := 3) C 3 dX0_behindHowMany_15 rfl rfl ?_
      obtain rfl := Option.some.inj hf
      exact z_iret (pc := 16) C hr R dX0_behindHowMany_16
theorem B_X0_behindHowMany_2 {X : bb_X} (C : bb_C X RX0 cX0_behindHowMany 4) (hR : bb_r X 6) (hr : X.meth.sig.returnType = (some .int)) (h : Nat → Nat) {z : (Int32 × bb_O)} (R : bb_R X (some (.int z.1)) (wX0 X.cs h z.2)) : ∀ (n : Nat) (s0 : bb_O) (x1 : Int32) (x2 : Int32) (x3 : Int32), F_X0_behindHowMany_2  n s0 x1 x2 x3 = some z → bb_Z X 4 (wX0 X.cs h s0) 2 [(0, .ref (h 0)), (1, .int x1), (2, .int x2), (3, .int x3)] [] := by
  intro n
  induction n with
  | zero =>
    intro s0 x1 x2 x3 hf
    cases hf
  | succ n ih =>
    intro s0 x1 x2 x3 hf
    exact A_X0_behindHowMany_2 C hR hr h R  ih hf
noncomputable def F_X0_behindHowMany_0 (s0 : bb_O) (x1 : Int32) (x2 : Int32) : Option (Int32 × bb_O) := F_X0_behindHowMany_2 bb_N s0 x1 x2 ((1 : Int32))
set_option maxHeartbeats 4000000 in
set_option maxRecDepth 100000 in
theorem B_X0_behindHowMany_0 {X : bb_X} (C : bb_C X RX0 cX0_behindHowMany 4) (hR : bb_r X 6) (hr : X.meth.sig.returnType = (some .int)) (h : Nat → Nat) {z : (Int32 × bb_O)} (R : bb_R X (some (.int z.1)) (wX0 X.cs h z.2)) {s0 : bb_O} {x1 : Int32} {x2 : Int32} (hf : F_X0_behindHowMany_0 s0 x1 x2 = some z) : bb_Z X 4 (wX0 X.cs h s0) 0 [(0, .ref (h 0)), (1, .int x1), (2, .int x2)] [] := by
  refine z_iconst (pc := 0) C (1 : Int32) dX0_behindHowMany_0 (by decide) ?_
  refine z_istore_n (pc := 1) (i := 3) (lv' := [(3, .int ((1 : Int32))), (0, .ref (h 0)), (1, .int x1), (2, .int x2)]) C dX0_behindHowMany_1 rfl (by decide) rfl ?_
  refine z_lv [1, 2, 3, 0] rfl ?_
  exact B_X0_behindHowMany_2 C hR hr h R  bb_N _ _ _ _ hf
theorem c_X0_behindHowMany {l : Launch} {D : va_G} {cs : Nat → ClassId} (h : Nat → Nat) {s0 : bb_O} {x1 : Int32} {x2 : Int32} {z : (Int32 × bb_O)} (hf : F_X0_behindHowMany_0 s0 x1 x2 = some z) : bb_M l yX0_behindHowMany cX0_behindHowMany 4 (some .int) 6 D cs [.ref (h 0), .int x1, .int x2] (some (.int z.1)) (wX0 cs h s0) (wX0 cs h z.2) := bb_mg (by decide) rfl (Nat.le_of_ble_eq_true rfl) rfl (fun X hl hD hcs C hR hr R => by
  subst hl
  subst hD
  subst hcs
  exact B_X0_behindHowMany_0 C hR hr h R hf)
/-! X0_beside: reads, level 2 -/
noncomputable def F_X0_beside_51 (s0 : bb_O) (y0 : Int32) : Option Int32 := some y0
set_option maxHeartbeats 4000000 in
set_option maxRecDepth 100000 in
theorem B_X0_beside_51 {X : bb_X} (C : bb_C X RX0 cX0_beside 3) (hR : bb_r X 2) (hr : X.meth.sig.returnType = (some .int)) (h : Nat → Nat) {z : Int32} {s0 : bb_O} (R : bb_R X (some (.int z)) (wX0 X.cs h s0)) {y0 : Int32} (hf : F_X0_beside_51 s0 y0 = some z) : bb_Z X 3 (wX0 X.cs h s0) 51 [] [.int y0] := by
  obtain rfl := Option.some.inj hf
  exact z_iret (pc := 51) C hr R dX0_beside_51
noncomputable def F_X0_beside_77 (s0 : bb_O) (y0 : Int32) : Option Int32 := some y0
set_option maxHeartbeats 4000000 in
set_option maxRecDepth 100000 in
theorem B_X0_beside_77 {X : bb_X} (C : bb_C X RX0 cX0_beside 3) (hR : bb_r X 2) (hr : X.meth.sig.returnType = (some .int)) (h : Nat → Nat) {z : Int32} {s0 : bb_O} (R : bb_R X (some (.int z)) (wX0 X.cs h s0)) {y0 : Int32} (hf : F_X0_beside_77 s0 y0 = some z) : bb_Z X 3 (wX0 X.cs h s0) 77 [] [.int y0] := by
  obtain rfl := Option.some.inj hf
  exact z_iret (pc := 77) C hr R dX0_beside_77
noncomputable def F_X0_beside_94 (s0 : bb_O) (y0 : Int32) : Option Int32 := some y0
set_option maxHeartbeats 4000000 in
set_option maxRecDepth 100000 in
theorem B_X0_beside_94 {X : bb_X} (C : bb_C X RX0 cX0_beside 3) (hR : bb_r X 2) (hr : X.meth.sig.returnType = (some .int)) (h : Nat → Nat) {z : Int32} {s0 : bb_O} (R : bb_R X (some (.int z)) (wX0 X.cs h s0)) {y0 : Int32} (hf : F_X0_beside_94 s0 y0 = some z) : bb_Z X 3 (wX0 X.cs h s0) 94 [] [.int y0] := by
  obtain rfl := Option.some.inj hf
  exact z_iret (pc := 94) C hr R dX0_beside_94
noncomputable def F_X0_beside_117 (s0 : bb_O) (y0 : Int32) : Option Int32 := some y0
set_option maxHeartbeats 4000000 in
set_option maxRecDepth 100000 in
theorem B_X0_beside_117 {X : bb_X} (C : bb_C X RX0 cX0_beside 3) (hR : bb_r X 2) (hr : X.meth.sig.returnType = (some .int)) (h : Nat → Nat) {z : Int32} {s0 : bb_O} (R : bb_R X (some (.int z)) (wX0 X.cs h s0)) {y0 : Int32} (hf : F_X0_beside_117 s0 y0 = some z) : bb_Z X 3 (wX0 X.cs h s0) 117 [] [.int y0] := by
  obtain rfl := Option.some.inj hf
  exact z_iret (pc := 117) C hr R dX0_beside_117
noncomputable def F_X0_beside_0 (s0 : bb_O) (x1 : Int32) (x2 : Int32) : Option Int32 := if x2 = 0 then ((F_X0_rowOf_0 s0 x1).bind (fun q2 => if q2 ≤ 0 then (F_X0_beside_51 s0 ((-4 : Int32))) else (F_X0_beside_51 s0 (x1 - (s0.1 1))))) else (if x2 = 1 then ((F_X0_rowOf_0 s0 x1).bind (fun q5 => if ((s0.1 0) - ((1 : Int32))) ≤ q5 then (F_X0_beside_77 s0 ((-4 : Int32))) else (F_X0_beside_77 s0 (x1 + (s0.1 1))))) else (if x2 = 2 then ((F_X0_columnOf_0 s0 x1).bind (fun q8 => if q8 ≤ 0 then (F_X0_beside_94 s0 ((-4 : Int32))) else (F_X0_beside_94 s0 (x1 - ((1 : Int32)))))) else (if x2 = 3 then ((F_X0_columnOf_0 s0 x1).bind (fun q11 => if ((s0.1 1) - ((1 : Int32))) ≤ q11 then (F_X0_beside_117 s0 ((-4 : Int32))) else (F_X0_beside_117 s0 (x1 + ((1 : Int32)))))) else (some ((-4 : Int32))))))
set_option maxHeartbeats 4000000 in
set_option maxRecDepth 100000 in
theorem B_X0_beside_0 {X : bb_X} (C : bb_C X RX0 cX0_beside 3) (hR : bb_r X 2) (hr : X.meth.sig.returnType = (some .int)) (h : Nat → Nat) {z : Int32} {s0 : bb_O} (R : bb_R X (some (.int z)) (wX0 X.cs h s0)) {x1 : Int32} {x2 : Int32} (hf : F_X0_beside_0 s0 x1 x2 = some z) : bb_Z X 3 (wX0 X.cs h s0) 0 [(0, .ref (h 0)), (1, .int x1), (2, .int x2)] [] := by
  refine z_iload_n (pc := 0) (i := 2) C 2 dX0_beside_0 rfl rfl ?_
  by_cases hc1 : x2 = 0
  · have hf := bb_t hf hc1
    refine z_tabIn (pc := 1) C 32 (0 : Int32) dX0_beside_1 hc1 (by decide) (by decide) rfl (by decide) ?_
    refine z_aload_n (pc := 32) (i := 0) C 0 dX0_beside_32 rfl rfl ?_
    refine z_iload_n (pc := 33) (i := 1) C 1 dX0_beside_33 rfl rfl ?_
    obtain ⟨q2, hq2, hf⟩ := bb_b_some hf
    refine z_callVi (pc := 34) (ci := 0) (q0 := 0) (As := [.int x1]) (rest := []) C (hR.le (by decide)) (c_X0_rowOf h hq2) (bb_cut_self _ _) bv_X0_rowOf bm_X0_61 rfl rfl rfl rfl (Nat.le_of_ble_eq_true rfl) dX0_beside_34 ?_
    refine z_if_le (pc := 37) C 49 dX0_beside_37 (by decide) (fun hc3 => ?_) (fun hc3 => ?_)
    · have hf := bb_t hf hc3
      refine z_bipush (pc := 49) C (-4 : Int32) dX0_beside_49 (by decide) ?_
      refine z_lv [] rfl ?_
      exact B_X0_beside_51 C hR hr h R  hf
    · have hf := bb_e hf hc3
      refine z_iload_n (pc := 40) (i := 1) C 1 dX0_beside_40 rfl rfl ?_
      refine z_aload_n (pc := 41) (i := 0) C 0 dX0_beside_41 rfl rfl ?_
      refine z_get (pc := 42) (ci := 0) C (.int (s0.1 1)) bi_X0 rfl 0 1 (by decide) rfl bf_X0_15 rfl rfl dX0_beside_42 ?_
      refine z_isub (pc := 45) C dX0_beside_45 ?_
      refine z_goto (pc := 46) C 51 dX0_beside_46 (by decide) ?_
      refine z_lv [] rfl ?_
      exact B_X0_beside_51 C hR hr h R  hf
  · have hf := bb_e hf hc1
    by_cases hc4 : x2 = 1
    · have hf := bb_t hf hc4
      refine z_tabIn (pc := 1) C 52 (1 : Int32) dX0_beside_1 hc4 (by decide) (by decide) rfl (by decide) ?_
      refine z_aload_n (pc := 52) (i := 0) C 0 dX0_beside_52 rfl rfl ?_
      refine z_iload_n (pc := 53) (i := 1) C 1 dX0_beside_53 rfl rfl ?_
      obtain ⟨q5, hq5, hf⟩ := bb_b_some hf
      refine z_callVi (pc := 54) (ci := 0) (q0 := 0) (As := [.int x1]) (rest := []) C (hR.le (by decide)) (c_X0_rowOf h hq5) (bb_cut_self _ _) bv_X0_rowOf bm_X0_61 rfl rfl rfl rfl (Nat.le_of_ble_eq_true rfl) dX0_beside_54 ?_
      refine z_aload_n (pc := 57) (i := 0) C 0 dX0_beside_57 rfl rfl ?_
      refine z_get (pc := 58) (ci := 0) C (.int (s0.1 0)) bi_X0 rfl 0 0 (by decide) rfl bf_X0_9 rfl rfl dX0_beside_58 ?_
      refine z_iconst (pc := 61) C (1 : Int32) dX0_beside_61 (by decide) ?_
      refine z_isub (pc := 62) C dX0_beside_62 ?_
      refine z_icmp_ge (pc := 63) C 75 dX0_beside_63 (by decide) (fun hc6 => ?_) (fun hc6 => ?_)
      · have hf := bb_t hf hc6
        refine z_bipush (pc := 75) C (-4 : Int32) dX0_beside_75 (by decide) ?_
        refine z_lv [] rfl ?_
        exact B_X0_beside_77 C hR hr h R  hf
      · have hf := bb_e hf hc6
        refine z_iload_n (pc := 66) (i := 1) C 1 dX0_beside_66 rfl rfl ?_
        refine z_aload_n (pc := 67) (i := 0) C 0 dX0_beside_67 rfl rfl ?_
        refine z_get (pc := 68) (ci := 0) C (.int (s0.1 1)) bi_X0 rfl 0 1 (by decide) rfl bf_X0_15 rfl rfl dX0_beside_68 ?_
        refine z_iadd (pc := 71) C dX0_beside_71 ?_
        refine z_goto (pc := 72) C 77 dX0_beside_72 (by decide) ?_
        refine z_lv [] rfl ?_
        exact B_X0_beside_77 C hR hr h R  hf
    · have hf := bb_e hf hc4
      by_cases hc7 : x2 = 2
      · have hf := bb_t hf hc7
        refine z_tabIn (pc := 1) C 78 (2 : Int32) dX0_beside_1 hc7 (by decide) (by decide) rfl (by decide) ?_
        refine z_aload_n (pc := 78) (i := 0) C 0 dX0_beside_78 rfl rfl ?_
        refine z_iload_n (pc := 79) (i := 1) C 1 dX0_beside_79 rfl rfl ?_
        obtain ⟨q8, hq8, hf⟩ := bb_b_some hf
        refine z_callVi (pc := 80) (ci := 0) (q0 := 0) (As := [.int x1]) (rest := []) C (hR.le (by decide)) (c_X0_columnOf h hq8) (bb_cut_self _ _) bv_X0_columnOf bm_X0_70 rfl rfl rfl rfl (Nat.le_of_ble_eq_true rfl) dX0_beside_80 ?_
        refine z_if_le (pc := 83) C 92 dX0_beside_83 (by decide) (fun hc9 => ?_) (fun hc9 => ?_)
        · have hf := bb_t hf hc9
          refine z_bipush (pc := 92) C (-4 : Int32) dX0_beside_92 (by decide) ?_
          refine z_lv [] rfl ?_
          exact B_X0_beside_94 C hR hr h R  hf
        · have hf := bb_e hf hc9
          refine z_iload_n (pc := 86) (i := 1) C 1 dX0_beside_86 rfl rfl ?_
          refine z_iconst (pc := 87) C (1 : Int32) dX0_beside_87 (by decide) ?_
          refine z_isub (pc := 88) C dX0_beside_88 ?_
          refine z_goto (pc := 89) C 94 dX0_beside_89 (by decide) ?_
          refine z_lv [] rfl ?_
          exact B_X0_beside_94 C hR hr h R  hf
      · have hf := bb_e hf hc7
        by_cases hc10 : x2 = 3
        · have hf := bb_t hf hc10
          refine z_tabIn (pc := 1) C 95 (3 : Int32) dX0_beside_1 hc10 (by decide) (by decide) rfl (by decide) ?_
          refine z_aload_n (pc := 95) (i := 0) C 0 dX0_beside_95 rfl rfl ?_
          refine z_iload_n (pc := 96) (i := 1) C 1 dX0_beside_96 rfl rfl ?_
          obtain ⟨q11, hq11, hf⟩ := bb_b_some hf
          refine z_callVi (pc := 97) (ci := 0) (q0 := 0) (As := [.int x1]) (rest := []) C (hR.le (by decide)) (c_X0_columnOf h hq11) (bb_cut_self _ _) bv_X0_columnOf bm_X0_70 rfl rfl rfl rfl (Nat.le_of_ble_eq_true rfl) dX0_beside_97 ?_
          refine z_aload_n (pc := 100) (i := 0) C 0 dX0_beside_100 rfl rfl ?_
          refine z_get (pc := 101) (ci := 0) C (.int (s0.1 1)) bi_X0 rfl 0 1 (by decide) rfl bf_X0_15 rfl rfl dX0_beside_101 ?_
          refine z_iconst (pc := 104) C (1 : Int32) dX0_beside_104 (by decide) ?_
          refine z_isub (pc := 105) C dX0_beside_105 ?_
          refine z_icmp_ge (pc := 106) C 115 dX0_beside_106 (by decide) (fun hc12 => ?_) (fun hc12 => ?_)
          · have hf := bb_t hf hc12
            refine z_bipush (pc := 115) C (-4 : Int32) dX0_beside_115 (by decide) ?_
            refine z_lv [] rfl ?_
            exact B_X0_beside_117 C hR hr h R  hf
          · have hf := bb_e hf hc12
            refine z_iload_n (pc := 109) (i := 1) C 1 dX0_beside_109 rfl rfl ?_
            refine z_iconst (pc := 110) C (1 : Int32) dX0_beside_110 (by decide) ?_
            refine z_iadd (pc := 111) C dX0_beside_111 ?_
            refine z_goto (pc := 112) C 117 dX0_beside_112 (by decide) ?_
            refine z_lv [] rfl ?_
            exact B_X0_beside_117 C hR hr h R  hf
        · have hf := bb_e hf hc10
          refine z_tabOut (pc := 1) C 118 dX0_beside_1 (by have a0 := lv_neT hc1 (show (0 : Int32).toInt = 0 by decide); have a1 := lv_neT hc4 (show (1 : Int32).toInt = 1 by decide); have a2 := lv_neT hc7 (show (2 : Int32).toInt = 2 by decide); have a3 := lv_neT hc10 (show (3 : Int32).toInt = 3 by decide); omega) (by decide) ?_
          refine z_bipush (pc := 118) C (-4 : Int32) dX0_beside_118 (by decide) ?_
          obtain rfl := Option.some.inj hf
          exact z_iret (pc := 120) C hr R dX0_beside_120
theorem c_X0_beside {l : Launch} {D : va_G} {cs : Nat → ClassId} (h : Nat → Nat) {s0 : bb_O} {x1 : Int32} {x2 : Int32} {z : Int32} (hf : F_X0_beside_0 s0 x1 x2 = some z) : bb_M l yX0_beside cX0_beside 3 (some .int) 2 D cs [.ref (h 0), .int x1, .int x2] (some (.int z)) (wX0 cs h s0) (wX0 cs h s0) := bb_mg (by decide) rfl (Nat.le_of_ble_eq_true rfl) rfl (fun X hl hD hcs C hR hr R => by
  subst hl
  subst hD
  subst hcs
  exact B_X0_beside_0 C hR hr h R hf)
/-! X0_stray: writes, level 3 -/
noncomputable def F_X0_stray_81 (s0 : bb_O) : Option (bb_O) := some s0
set_option maxHeartbeats 4000000 in
set_option maxRecDepth 100000 in
theorem B_X0_stray_81 {X : bb_X} (C : bb_C X RX0 cX0_stray 3) (hR : bb_r X 3) (hr : X.meth.sig.returnType = none) (h : Nat → Nat) {z : (bb_O)} (R : bb_R X none (wX0 X.cs h z)) {s0 : bb_O} (hf : F_X0_stray_81 s0 = some z) : bb_Z X 3 (wX0 X.cs h s0) 81 [] [] := by
  obtain rfl := Option.some.inj hf
  exact z_vret (pc := 81) C hr R dX0_stray_81
noncomputable def F_X0_stray_26 (s0 : bb_O) : Option (bb_O) := bb_g (¬ (s0.1 2) = 0) (bb_g (vp_in (((s0.1 8) / ((65536 : Int32))) % (s0.1 2)) 6) ((F_X0_beside_0 s0 (s0.2.1 10 (((s0.1 8) / ((65536 : Int32))) % (s0.1 2)).toNatClampNeg) (((s0.1 8) / ((128 : Int32))) % ((4 : Int32)))).bind (fun q3 => (F_X0_isFree_0 s0 (((s0.1 8) / ((65536 : Int32))) % (s0.1 2))).bind (fun q4 => if q4 = 0 then (F_X0_stray_81 s0) else (if q3 = ((-4 : Int32)) then (F_X0_stray_81 s0) else (bb_g (vp_in (((s0.1 8) / ((65536 : Int32))) % (s0.1 2)) 6) (F_X0_stray_81 (bb_sA s0 10 (upd (s0.2.1 10) (((s0.1 8) / ((65536 : Int32))) % (s0.1 2)).toNatClampNeg q3)))))))))
set_option maxHeartbeats 4000000 in
set_option maxRecDepth 100000 in
theorem B_X0_stray_26 {X : bb_X} (C : bb_C X RX0 cX0_stray 3) (hR : bb_r X 3) (hr : X.meth.sig.returnType = none) (h : Nat → Nat) {z : (bb_O)} (R : bb_R X none (wX0 X.cs h z)) {s0 : bb_O} (hf : F_X0_stray_26 s0 = some z) : bb_Z X 3 (wX0 X.cs h s0) 26 [(0, .ref (h 0))] [] := by
  refine z_aload_n (pc := 26) (i := 0) C 0 dX0_stray_26 rfl rfl ?_
  refine z_get (pc := 27) (ci := 0) C (.int (s0.1 8)) bi_X0 rfl 0 8 (by decide) rfl bf_X0_18 rfl rfl dX0_stray_27 ?_
  refine z_ldc (pc := 30) C bk_X0_116 dX0_stray_30 ?_
  refine z_idiv (pc := 32) C dX0_stray_32 (by decide) ?_
  refine z_aload_n (pc := 33) (i := 0) C 0 dX0_stray_33 rfl rfl ?_
  refine z_get (pc := 34) (ci := 0) C (.int (s0.1 2)) bi_X0 rfl 0 2 (by decide) rfl bf_X0_37 rfl rfl dX0_stray_34 ?_
  obtain ⟨hn1, hf⟩ := bb_g_some hf
  refine z_irem (pc := 37) C dX0_stray_37 hn1 ?_
  refine z_istore_n (pc := 38) (i := 1) (lv' := [(1, .int (((s0.1 8) / ((65536 : Int32))) % (s0.1 2))), (0, .ref (h 0))]) C dX0_stray_38 rfl (by decide) rfl ?_
  refine z_aload_n (pc := 39) (i := 0) C 1 dX0_stray_39 rfl rfl ?_
  refine z_aload_n (pc := 40) (i := 0) C 1 dX0_stray_40 rfl rfl ?_
  refine z_get (pc := 41) (ci := 0) C (.ref (h 11)) bi_X0 rfl 0 10 (by decide) rfl bf_X0_25 rfl rfl dX0_stray_41 ?_
  refine z_iload_n (pc := 44) (i := 1) C 0 dX0_stray_44 rfl rfl ?_
  obtain ⟨hv2, hf⟩ := bb_g_some hf
  refine z_iald (pc := 45) C 2 0 ((((s0.1 8) / ((65536 : Int32))) % (s0.1 2)).toNatClampNeg) rfl rfl hv2 rfl dX0_stray_45 ?_
  refine z_aload_n (pc := 46) (i := 0) C 1 dX0_stray_46 rfl rfl ?_
  refine z_get (pc := 47) (ci := 0) C (.int (s0.1 8)) bi_X0 rfl 0 8 (by decide) rfl bf_X0_18 rfl rfl dX0_stray_47 ?_
  refine z_sipush (pc := 50) C (128 : Int32) dX0_stray_50 (by decide) ?_
  refine z_idiv (pc := 53) C dX0_stray_53 (by decide) ?_
  refine z_iconst (pc := 54) C (4 : Int32) dX0_stray_54 (by decide) ?_
  refine z_irem (pc := 55) C dX0_stray_55 (by decide) ?_
  obtain ⟨q3, hq3, hf⟩ := bb_b_some hf
  refine z_callVi (pc := 56) (ci := 0) (q0 := 0) (As := [.int (s0.2.1 10 (((s0.1 8) / ((65536 : Int32))) % (s0.1 2)).toNatClampNeg), .int (((s0.1 8) / ((128 : Int32))) % ((4 : Int32)))]) (rest := []) C (hR.le (by decide)) (c_X0_beside h hq3) (bb_cut_self _ _) bv_X0_beside bm_X0_117 rfl rfl rfl rfl (Nat.le_of_ble_eq_true rfl) dX0_stray_56 ?_
  refine z_istore_n (pc := 59) (i := 2) (lv' := [(2, .int q3), (1, .int (((s0.1 8) / ((65536 : Int32))) % (s0.1 2))), (0, .ref (h 0))]) C dX0_stray_59 rfl (by decide) rfl ?_
  refine z_aload_n (pc := 60) (i := 0) C 2 dX0_stray_60 rfl rfl ?_
  refine z_iload_n (pc := 61) (i := 1) C 1 dX0_stray_61 rfl rfl ?_
  obtain ⟨q4, hq4, hf⟩ := bb_b_some hf
  refine z_callVi (pc := 62) (ci := 0) (q0 := 0) (As := [.int (((s0.1 8) / ((65536 : Int32))) % (s0.1 2))]) (rest := []) C (hR.le (by decide)) (c_X0_isFree h hq4) (bb_cut_self _ _) bv_X0_isFree bm_X0_80 rfl rfl rfl rfl (Nat.le_of_ble_eq_true rfl) dX0_stray_62 ?_
  refine z_if_eq (pc := 65) C 81 dX0_stray_65 (by decide) (fun hc5 => ?_) (fun hc5 => ?_)
  · have hf := bb_t hf hc5
    refine z_lv [] rfl ?_
    exact B_X0_stray_81 C hR hr h R  hf
  · have hf := bb_e hf hc5
    refine z_iload_n (pc := 68) (i := 2) C 0 dX0_stray_68 rfl rfl ?_
    refine z_bipush (pc := 69) C (-4 : Int32) dX0_stray_69 (by decide) ?_
    refine z_icmp_eq (pc := 71) C 81 dX0_stray_71 (by decide) (fun hc6 => ?_) (fun hc6 => ?_)
    · have hf := bb_t hf hc6
      refine z_lv [] rfl ?_
      exact B_X0_stray_81 C hR hr h R  hf
    · have hf := bb_e hf hc6
      refine z_aload_n (pc := 74) (i := 0) C 2 dX0_stray_74 rfl rfl ?_
      refine z_get (pc := 75) (ci := 0) C (.ref (h 11)) bi_X0 rfl 0 10 (by decide) rfl bf_X0_25 rfl rfl dX0_stray_75 ?_
      refine z_iload_n (pc := 78) (i := 1) C 1 dX0_stray_78 rfl rfl ?_
      refine z_iload_n (pc := 79) (i := 2) C 0 dX0_stray_79 rfl rfl ?_
      obtain ⟨hv7, hf⟩ := bb_g_some hf
      refine z_iast (pc := 80) (ws' := wX0 X.cs h (bb_sA s0 10 (upd (s0.2.1 10) (((s0.1 8) / ((65536 : Int32))) % (s0.1 2)).toNatClampNeg q3))) C 2 0 ((((s0.1 8) / ((65536 : Int32))) % (s0.1 2)).toNatClampNeg) rfl rfl hv7 rfl rfl dX0_stray_80 ?_
      refine z_lv [] rfl ?_
      exact B_X0_stray_81 C hR hr h R  hf
noncomputable def F_X0_stray_0 (s0 : bb_O) : Option (bb_O) := if 0 < (s0.1 2) then (F_X0_stray_26 (bb_sf s0 8 ((((s0.1 8) * ((1103515245 : Int32))) + ((12345 : Int32))) &&& ((2147483647 : Int32))))) else (some s0)
set_option maxHeartbeats 4000000 in
set_option maxRecDepth 100000 in
theorem B_X0_stray_0 {X : bb_X} (C : bb_C X RX0 cX0_stray 3) (hR : bb_r X 3) (hr : X.meth.sig.returnType = none) (h : Nat → Nat) {z : (bb_O)} (R : bb_R X none (wX0 X.cs h z)) {s0 : bb_O} (hf : F_X0_stray_0 s0 = some z) : bb_Z X 3 (wX0 X.cs h s0) 0 [(0, .ref (h 0))] [] := by
  refine z_aload_n (pc := 0) (i := 0) C 0 dX0_stray_0 rfl rfl ?_
  refine z_get (pc := 1) (ci := 0) C (.int (s0.1 2)) bi_X0 rfl 0 2 (by decide) rfl bf_X0_37 rfl rfl dX0_stray_1 ?_
  refine z_if_gt (pc := 4) C 8 dX0_stray_4 (by decide) (fun hc1 => ?_) (fun hc1 => ?_)
  · have hf := bb_t hf hc1
    refine z_aload_n (pc := 8) (i := 0) C 0 dX0_stray_8 rfl rfl ?_
    refine z_aload_n (pc := 9) (i := 0) C 0 dX0_stray_9 rfl rfl ?_
    refine z_get (pc := 10) (ci := 0) C (.int (s0.1 8)) bi_X0 rfl 0 8 (by decide) rfl bf_X0_18 rfl rfl dX0_stray_10 ?_
    refine z_ldc (pc := 13) C bk_X0_114 dX0_stray_13 ?_
    refine z_imul (pc := 15) C dX0_stray_15 ?_
    refine z_sipush (pc := 16) C (12345 : Int32) dX0_stray_16 (by decide) ?_
    refine z_iadd (pc := 19) C dX0_stray_19 ?_
    refine z_ldc (pc := 20) C bk_X0_115 dX0_stray_20 ?_
    refine z_iand (pc := 22) C dX0_stray_22 ?_
    refine z_put (pc := 23) (ci := 0) (ty := .int) (ws' := wX0 X.cs h (bb_sf s0 8 ((((s0.1 8) * ((1103515245 : Int32))) + ((12345 : Int32))) &&& ((2147483647 : Int32))))) C bi_X0 tyX0_ok nmX0 rfl 0 8 (by decide) rfl bf_X0_18 rfl rfl rfl rfl rfl (Nat.le_of_ble_eq_true rfl) rfl dX0_stray_23 ?_
    exact B_X0_stray_26 C hR hr h R  hf
  · have hf := bb_e hf hc1
    obtain rfl := Option.some.inj hf
    exact z_vret (pc := 7) C hr R dX0_stray_7
theorem c_X0_stray {l : Launch} {D : va_G} {cs : Nat → ClassId} (h : Nat → Nat) {s0 : bb_O} {z : (bb_O)} (hf : F_X0_stray_0 s0 = some z) : bb_M l yX0_stray cX0_stray 3 none 3 D cs [.ref (h 0)] none (wX0 cs h s0) (wX0 cs h z) := bb_mg (by decide) rfl (Nat.le_of_ble_eq_true rfl) rfl (fun X hl hD hcs C hR hr R => by
  subst hl
  subst hD
  subst hcs
  exact B_X0_stray_0 C hR hr h R hf)
