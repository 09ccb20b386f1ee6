/-! ===== city ===== -/
theorem zn_71 {s : bb_O} {p : Nat} (h : ZN s p) (x1 x2 x3 x4 x5 : Int32) : F_X5_city_71 s x1 x2 x3 x4 x5 = some (-20 - nI p, bb_sf s 4 0) := by
  have e : bb_sf s 6 1 = s := by
    rw [← h.2]
    exact zsf_same s 6
  unfold F_X5_city_71 F_X5_city_86 F_X5_city_91 F_X5_city_94 F_X5_city_99
  rw [h.2, if_neg z10, bb_g_pos bz1, e, show (bb_sf s 4 0).1 6 = 1 from h.2, if_neg z10, show (bb_sf s 4 0).1 5 = nI p from h.1]
theorem zn_57 {s : bb_O} {p : Nat} (h : ZN s p) (x1 x2 x3 x4 : Int32) : F_X5_city_57 s x1 x2 x3 x4 = some (-20 - nI p, bb_sf s 4 0) := by
  unfold F_X5_city_57 F_X5_readPeople_0
  rw [zn_sign h, Option.bind_some, show F_X5_readPeople_2 bb_N s x1 x2 0 = some (0, s) from zn_2 h 199 x1 x2 0, Option.bind_some, zn_71 h]
theorem zn_47 {s : bb_O} {p : Nat} (h : ZN s p) (x1 x2 x3 : Int32) : F_X5_city_47 s x1 x2 x3 = some (-20 - nI p, bb_sf s 4 0) := by
  unfold F_X5_city_47
  rw [zn_digit h, Option.bind_some, zn_57 h]
theorem zn_32 {s : bb_O} {p : Nat} (h : ZN s p) (x1 x2 : Int32) : F_X5_city_32 s x1 x2 = some (-20 - nI p, bb_sf s 4 0) := by
  unfold F_X5_city_32
  rw [zn_sign h, Option.bind_some, zn_digit h, Option.bind_some, zn_47 h]
theorem zn_18 {s : bb_O} {p : Nat} (h : ZN s p) (x1 : Int32) : F_X5_city_18 s x1 = some (-20 - nI p, bb_sf s 4 0) := by
  unfold F_X5_city_18
  rw [zn_sign h, Option.bind_some, zn_digit h, Option.bind_some, zn_32 h]
/-- both readers, from the start of the tape -/
theorem z_city {g : Nat → Nat} {t : Nat} (hg : ZG g t) {T s c : bb_O} {w : Nat → Int32} (hC : ZC g t T 0) (hM : ZM g t s 0) (hw : s.2.1 0 = w) (hc : RC c w) : (∃ T' c' s' P v, F_X3_readInto_0 T c = some (1, (T', c')) ∧ F_X5_city_10 s = some (nI P, s') ∧ c'.1 2 = nI P ∧ s'.2.1 0 = v ∧ RC c' v ∧ ZI v ∧ s'.1 4 = 0 ∧ s'.1 9 = 0 ∧ (∀ k, k ≠ 4 → k ≠ 5 → k ≠ 6 → k ≠ 9 → s'.1 k = s.1 k) ∧ (∀ k, k ≠ 0 → k ≠ 7 → s'.2.1 k = s.2.1 k) ∧ s'.2.2 = s.2.2) ∨ ∃ T' c' s' z, F_X3_readInto_0 T c = some (0, (T', c')) ∧ F_X5_city_10 s = some (-20 - nI z, s') ∧ T'.1 2 = nI z ∧ s'.1 4 = 0 ∧ (∀ k, k ≠ 4 → k ≠ 5 → k ≠ 6 → s'.1 k = s.1 k) ∧ (∀ k, k ≠ 7 → s'.2.1 k = s.2.1 k) ∧ s'.2.2 = s.2.2 := by
  have fin : ∀ (s1 : bb_O), ZX s s1 → (bb_sf s1 4 0).1 4 = 0 ∧ (∀ k, k ≠ 4 → k ≠ 5 → k ≠ 6 → (bb_sf s1 4 0).1 k = s.1 k) ∧ (∀ k, k ≠ 7 → (bb_sf s1 4 0).2.1 k = s.2.1 k) ∧ (bb_sf s1 4 0).2.2 = s.2.2 := fun s1 h => ⟨rfl, fun k h4 h5 h6 => (zu_n _ _ h4).trans (h.1 k h5 h6), h.2.1, h.2.2⟩
  have e0 : bb_sf T 2 0 = T := by
    rw [show (0 : Int32) = T.1 2 from hC.2.1.symm]
    exact zsf_same T 2
  unfold F_X3_readInto_0 F_X3_readInto_22 F_X3_readStreets_0 F_X3_readStreets_23 F_X3_readStreets_48 F_X3_readStreets_85 F_X5_city_10
  rw [e0]
  rcases z_digit hg hC hM (by omega) (by omega) rfl (lo := 2) (hi := 6) (by omega) (by omega) with ⟨R, z1, T1, s1, a1, a2, a3, a4, a5, a6, a7, a8⟩ | ⟨z1, v1, T1, s1, a4, a5, a6, a7, a8⟩
  · rw [show F_X3_readDigit_0 T 2 6 = some (nI R, T1) from a4, show F_X5_digit_0 s 2 6 = some (nI R, s1) from a5, Option.bind_some, Option.bind_some, if_neg (zne4 (show R < 2 ^ 31 by omega))]
    dsimp only
    unfold F_X5_city_18
    rcases z_sign hg a6 a7 a3 a3 rfl (c := 120) (by omega) (by omega) with ⟨z2, T2, s2, b1, b2, b3, b4, b5, b6, b7⟩ | ⟨z2, T2, s2, b1, b2, b3, b4, b5, b6, b7⟩
    · rw [show F_X3_readSign_0 T1 120 = some (1, T2) from b3, show F_X5_sign_0 s1 120 = some s2 from b4, Option.bind_some, Option.bind_some, if_neg z10]
      dsimp only
      rcases z_digit hg b5 b6 b1 b1 rfl (lo := 2) (hi := 6) (by omega) (by omega) with ⟨K, z3, T3, s3, c1, c2, c3, c4, c5, c6, c7, c8⟩ | ⟨z3, v3, T3, s3, c4, c5, c6, c7, c8⟩
      · rw [show F_X3_readDigit_0 T2 2 6 = some (nI K, T3) from c4, show F_X5_digit_0 s2 2 6 = some (nI K, s3) from c5, Option.bind_some, Option.bind_some, if_neg (zne4 (show K < 2 ^ 31 by omega))]
        dsimp only
        unfold F_X5_city_32
        rcases z_sign hg c6 c7 c3 c3 rfl (c := 64) (by omega) (by omega) with ⟨z4, T4, s4, d1, d2, d3, d4, d5, d6, d7⟩ | ⟨z4, T4, s4, d1, d2, d3, d4, d5, d6, d7⟩
        · obtain ⟨cb, f1, f2⟩ := zc_build hc (nI R) (nI K)
          have hzi := zfr_ZI w a1 a2 c1 c2
          have g0 : gN (zfr w (nI R) (nI K)) 0 = R := nI_clamp (by omega)
          have g1 : gN (zfr w (nI R) (nI K)) 1 = K := nI_clamp (by omega)
          have b0 : cb.1 0 = nI R := f2.1.1
          have b1' : cb.1 1 = nI K := f2.1.2.1
          have q0 : nI R - 1 = nI (R - 1) := by rw [show (1 : Int32) = nI 1 from rfl, zs_le (by omega)]
          have q1 : nI K - 1 = nI (K - 1) := by rw [show (1 : Int32) = nI 1 from rfl, zs_le (by omega)]
          rw [show F_X3_readSign_0 T3 64 = some (1, T4) from d3, show F_X5_sign_0 s3 64 = some s4 from d4, Option.bind_some, Option.bind_some, if_neg z10]
          dsimp only
          rw [f1, Option.bind_some]
          unfold F_X3_readCell_0 F_X3_readCell_52
          rw [b0, b1', q0, q1]
          rcases z_digit hg d5 d6 d1 d1 rfl (lo := 0) (hi := R - 1) (by omega) (by omega) with ⟨r, z5, T5, s5, i1, i2, i3, i4, i5, i6, i7, i8⟩ | ⟨z5, v5, T5, s5, i4, i5, i6, i7, i8⟩
          · rw [show F_X3_readDigit_0 T4 0 (nI (R - 1)) = some (nI r, T5) from i4, show F_X5_digit_0 s4 0 (nI (R - 1)) = some (nI r, s5) from i5, Option.bind_some, Option.bind_some, if_neg (zne4 (show r < 2 ^ 31 by omega))]
            dsimp only
            unfold F_X5_city_47
            rw [q1]
            rcases z_digit hg i6 i7 i3 i3 rfl (lo := 0) (hi := K - 1) (by omega) (by omega) with ⟨l, z6, T6, s6, j1, j2, j3, j4, j5, j6, j7, j8⟩ | ⟨z6, v6, T6, s6, j4, j5, j6, j7, j8⟩
            · have hce : r * K + l < R * K := by
                have : (r + 1) * K ≤ R * K := Nat.mul_le_mul_right _ (by omega)
                rw [Nat.add_mul, Nat.one_mul] at this
                omega
              have hRK : R * K ≤ 36 := Nat.mul_le_mul a2 c2
              rw [show F_X3_readDigit_0 T5 0 (nI (K - 1)) = some (nI l, T6) from j4, show F_X5_digit_0 s5 0 (nI (K - 1)) = some (nI l, s6) from j5, Option.bind_some, Option.bind_some, if_neg (zne4 (show l < 2 ^ 31 by omega)), pk_mul, nI_add, Option.bind_some]
              dsimp only
              rw [if_neg (zne4 (show r * K + l < 2 ^ 31 by omega)), if_neg (nI_pos (show r * K + l < 2 ^ 31 by omega)), bb_g_pos bz1, Option.bind_some, if_neg z10]
              dsimp only
              unfold F_X5_city_57
              have hh6 : ZH s s6 := ((((a8.trans b7).trans c8).trans d7).trans i8).trans j8
              rcases z_sign hg j6 j7 j3 j3 rfl (c := 59) (by omega) (by omega) with ⟨z7, T7, s7, l1, l2, l3, l4, l5, l6, l7⟩ | ⟨z7, T7, s7, l1, l2, l3, l4, l5, l6, l7⟩
              · rw [show F_X3_readSign_0 T6 59 = some (1, T7) from l3, show F_X5_sign_0 s6 59 = some s7 from l4, Option.bind_some, Option.bind_some, if_neg z10]
                dsimp only
                have hh7 : ZH s s7 := hh6.trans l7
                have hw7 : s7.2.1 0 = w := by rw [hh7.2]; exact hw
                have hrc0 : RC (bb_sf cb 3 (nI (r * K + l))) (zcs (upd (zfr w (nI R) (nI K)) 3 (nI (r * K + l))) (s7.2.1 7) 0) := RC_sf3 f2 _
                have hzi0 : ZI (zcs (upd (zfr w (nI R) (nI K)) 3 (nI (r * K + l))) (s7.2.1 7) 0) := ZI_of hzi (fun i q => zu_n _ _ (by omega)) (zu_s _ _ _) (by rw [g0, g1]; exact hce)
                have key := z_people hg (w0 := upd (zfr w (nI R) (nI K)) 3 (nI (r * K + l))) rfl (R := R) (C := K) 5 bb_N 199 0 z7 z7 T7 s7 (bb_sf cb 3 (nI (r * K + l))) (by omega) (by decide) (by omega) l5 l6 l1 l1 rfl hrc0 hzi0 ((zg_n _ _ (by omega)).trans g0) ((zg_n _ _ (by omega)).trans g1)
                have st : F_X5_readPeople_0 s7 (nI R) (nI K) = F_X5_readPeople_41 (F_X5_readPeople_2 199) s7 (nI R) (nI K) (nI 0) := by
                  unfold F_X5_readPeople_0
                  show G_X5_readPeople_2 (F_X5_readPeople_2 199) s7 (nI R) (nI K) 0 = _
                  unfold G_X5_readPeople_2 F_X5_readPeople_22
                  rw [if_pos l6.2.2.1, if_pos rfl, if_pos (show (0 : Int32) ≤ 0 by decide)]
                  rfl
                rw [st, show (1 : Int32) = nI (0 + 1) from rfl]
                rcases key with ⟨T8, c8', s8, P, y8, z8, p1, p2, p3, p4, p5, p6, p7, p8, p9, p10⟩ | ⟨T8, c8', s8, z8, v8, p1, p2, p3, p4, p5⟩
                · left
                  rw [p1, p2, Option.bind_some]
                  have hX : ZX s s8 := hh7.x.trans p10
                  unfold F_X5_city_71 F_X5_city_91 F_X5_city_94 F_X5_city_99 F_X5_city_132
                  dsimp only
                  rw [if_pos p7.2.2.1, zm_here hg p7 p8, Option.bind_some, p9]
                  dsimp only
                  rw [if_pos (show nI 0 = 0 from rfl), bb_g_pos bz0, if_pos (show (bb_sf (bb_sf (bb_sf s8 5 (nI (zpk g t y8))) 6 0) 4 0).1 6 = 0 from rfl), zm_fresh, Option.bind_some, pk_mul, nI_add]
                  have hw8 : s8.2.1 0 = w := (p10.2.1 0 (by omega)).trans hw7
                  obtain ⟨s9, t1, t2, t3, t4, t5, t6⟩ := zm_comesL (w0 := upd (zfr w (nI R) (nI K)) 3 (nI (r * K + l))) (a := s8.2.1 7) rfl p3 P bb_N 0 (upd (bb_sf (bb_sf (bb_sf s8 5 (nI (zpk g t y8))) 6 0) 4 0).1 9 0, va_up (va_up s8.2.1 0 (zfr w (nI R) (nI K))) 0 (upd (zfr w (nI R) (nI K)) 3 (nI (r * K + l))), s8.2.2) (by omega) (show P < 200 by omega) rfl rfl rfl
                  refine ⟨T8, c8', s9, P, _, rfl, ?_, ?_, t2, p4, p5, ?_, t3, fun k h4 h5 h6 h9 => ?_, fun k h0 h7 => ?_, ?_⟩
                  · rw [show (bb_sf (bb_sf (bb_sf s8 5 (nI (zpk g t y8))) 6 0) 4 0).2.1 0 = w from hw8]
                    exact t1
                  · exact p4.1.2.2.1.trans (zcs_2 rfl P)
                  · exact t4 4 (by omega)
                  · rw [t4 k h9]
                    show upd (upd (upd (upd s8.1 5 _) 6 0) 4 0) 9 0 k = _
                    rw [zu_n _ _ h9, zu_n _ _ h4, zu_n _ _ h6, zu_n _ _ h5]
                    exact hX.1 k h5 h6
                  · rw [t5 k h0]
                    show va_up (va_up s8.2.1 0 _) 0 _ k = _
                    rw [va_up_ne _ _ h0, va_up_ne _ _ h0]
                    exact hX.2.1 k h7
                  · rw [t6]
                    exact hX.2.2
                · right
                  rw [p1, p2, Option.bind_some]
                  have hX : ZX s s8 := hh7.x.trans p5
                  rcases p4 with p4 | ⟨y8, y1, y2, y3, y4⟩
                  · dsimp only
                    rw [zn_71 p4]
                    exact ⟨T8, c8', _, z8, rfl, rfl, p3.2.1, fin s8 hX⟩
                  · have hcy := hg.ch y8
                    unfold F_X5_city_71 F_X5_city_86 F_X5_city_91 F_X5_city_94 F_X5_city_99
                    dsimp only
                    rw [if_pos y2.2.2.1, zm_here hg y2 y1, Option.bind_some]
                    dsimp only
                    rw [if_neg (show ¬ nI (zch g t y8) = 0 from fun q => y3 ((nI_eq (a := zch g t y8) (b := 0) (by omega) (by decide)).mp q)), bb_g_pos bz1, if_neg (show ¬ (bb_sf (bb_sf (bb_sf s8 5 (nI (zpk g t y8))) 6 1) 4 0).1 6 = 0 from z10), y4]
                    exact ⟨T8, c8', _, z8, rfl, rfl, p3.2.1, fin _ (hX.trans ((ZH.f5 _ _).trans (ZH.f6 _ _)).x)⟩
              · right
                rw [show F_X3_readSign_0 T6 59 = some (0, T7) from l3, show F_X5_sign_0 s6 59 = some s7 from l4, Option.bind_some, Option.bind_some, if_pos rfl]
                dsimp only
                unfold F_X5_readPeople_0
                rw [show F_X5_readPeople_2 bb_N s7 (nI R) (nI K) 0 = some (0, s7) from zn_2 l6 199 _ _ 0, Option.bind_some, zn_71 l6]
                exact ⟨T7, _, _, z7, rfl, rfl, l5.2.1, fin s7 (hh6.trans l7).x⟩
            · right
              rw [show F_X3_readDigit_0 T5 0 (nI (K - 1)) = some (-4, T6) from j4, show F_X5_digit_0 s5 0 (nI (K - 1)) = some (v6, s6) from j5, Option.bind_some, Option.bind_some, if_pos rfl, Option.bind_some]
              dsimp only
              rw [if_pos rfl, bb_g_pos bz0, Option.bind_some, if_pos rfl, zn_57 j7]
              exact ⟨T6, _, _, z6, rfl, rfl, j6.2.1, fin s6 ((((((a8.trans b7).trans c8).trans d7).trans i8).trans j8).x)⟩
          · right
            rw [show F_X3_readDigit_0 T4 0 (nI (R - 1)) = some (-4, T5) from i4, show F_X5_digit_0 s4 0 (nI (R - 1)) = some (v5, s5) from i5, Option.bind_some, Option.bind_some, if_pos rfl, Option.bind_some]
            dsimp only
            rw [if_pos rfl, bb_g_pos bz0, Option.bind_some, if_pos rfl, zn_47 i7]
            exact ⟨T5, _, _, z5, rfl, rfl, i6.2.1, fin s5 (((((a8.trans b7).trans c8).trans d7).trans i8).x)⟩
        · right
          rw [show F_X3_readSign_0 T3 64 = some (0, T4) from d3, show F_X5_sign_0 s3 64 = some s4 from d4, Option.bind_some, Option.bind_some, if_pos rfl, Option.bind_some]
          dsimp only
          rw [if_pos rfl, zn_digit d6, Option.bind_some, zn_47 d6]
          exact ⟨T4, _, _, z4, rfl, rfl, d5.2.1, fin s4 ((((a8.trans b7).trans c8).trans d7).x)⟩
      · right
        rw [show F_X3_readDigit_0 T2 2 6 = some (-4, T3) from c4, show F_X5_digit_0 s2 2 6 = some (v3, s3) from c5, Option.bind_some, Option.bind_some, if_pos rfl, Option.bind_some]
        dsimp only
        rw [if_pos rfl, zn_32 c7]
        exact ⟨T3, _, _, z3, rfl, rfl, c6.2.1, fin s3 (((a8.trans b7).trans c8).x)⟩
    · right
      rw [show F_X3_readSign_0 T1 120 = some (0, T2) from b3, show F_X5_sign_0 s1 120 = some s2 from b4, Option.bind_some, Option.bind_some, if_pos rfl, Option.bind_some]
      dsimp only
      rw [if_pos rfl, zn_digit b6, Option.bind_some, zn_32 b6]
      exact ⟨T2, _, _, z2, rfl, rfl, b5.2.1, fin s2 ((a8.trans b7).x)⟩
  · right
    rw [show F_X3_readDigit_0 T 2 6 = some (-4, T1) from a4, show F_X5_digit_0 s 2 6 = some (v1, s1) from a5, Option.bind_some, Option.bind_some, if_pos rfl, Option.bind_some]
    dsimp only
    rw [if_pos rfl, zn_18 a7]
    exact ⟨T1, _, _, z1, rfl, rfl, a6.2.1, fin s1 a8.x⟩
theorem q_city {σ : bb_H} {μ : bb_O} (h : ZR σ μ) : ZO (F_X4_city_0 σ) (F_X5_city_0 μ) := by
  obtain ⟨hc, hi, hp⟩ := h.1
  obtain ⟨t, ht, t1, t2, t3⟩ := h.2.2.1
  have hgv : ∀ i, i < t → ((σ 6).2.1 0 i = nI (gN (μ.2.1 3) i) ∧ μ.2.1 3 i = nI (gN (μ.2.1 3) i)) ∧ 32 ≤ gN (μ.2.1 3) i ∧ gN (μ.2.1 3) i ≤ 126 := fun i hi => by
    obtain ⟨ch, c1, c2, c3, c4⟩ := t3 i hi
    have : gN (μ.2.1 3) i = ch := by unfold gN; rw [c4]; exact nI_clamp (by omega)
    rw [this]
    exact ⟨⟨c3, c4⟩, c1, c2⟩
  have hg : ZG (gN (μ.2.1 3)) t := ⟨ht, fun i hi => (hgv i hi).2⟩
  obtain ⟨tr, f1, f2⟩ := zc_take (t := σ 2) hc
  have hC : ZC (gN (μ.2.1 3)) t (bb_sf (σ 6) 2 0) 0 := ⟨t1, rfl, fun i hi => (hgv i hi).1.1⟩
  have hM : ZM (gN (μ.2.1 3)) t (bb_sf (bb_sf μ 5 0) 6 0) 0 := ⟨t2, rfl, rfl, fun i hi => (hgv i hi).1.2⟩
  have e6 : F_X3_readInto_0 (σ 6) tr = F_X3_readInto_0 (bb_sf (σ 6) 2 0) tr := by
    unfold F_X3_readInto_0
    rw [zsf2]
  unfold F_X4_city_0 F_X4_city_47 F_X4_city_78 F_X5_city_0 F_X5_city_5
  rw [f1, Option.bind_some]
  rw [show (va_up (va_up σ 2 (tr, σ 0).1) 0 (tr, σ 0).2) 6 = σ 6 from rfl, show (va_up (va_up σ 2 (tr, σ 0).1) 0 (tr, σ 0).2) 2 = tr from rfl, e6]
  rcases z_city hg hC hM rfl f2 with ⟨T', c', s', P, v, q1, q2, q3, q4, q5, q6, q7, q8, q9, q10, q11⟩ | ⟨T', c', s', z, q1, q2, q3, q4, q5, q6, q7⟩
  · rw [q1, Option.bind_some, if_neg z10, q2]
    obtain ⟨t9, w1, w2⟩ := zc_take (t := σ 0) q5
    dsimp only
    rw [if_neg z10]
    rw [show (va_up (va_up (va_up (va_up (va_up σ 2 tr) 0 (σ 0)) 6 T') 2 c') 6 (bb_sf ((va_up (va_up (va_up (va_up σ 2 tr) 0 (σ 0)) 6 T') 2 c') 6) 1 0)) 0 = σ 0 from rfl, show (va_up (va_up (va_up (va_up (va_up σ 2 tr) 0 (σ 0)) 6 T') 2 c') 6 (bb_sf ((va_up (va_up (va_up (va_up σ 2 tr) 0 (σ 0)) 6 T') 2 c') 6) 1 0)) 2 = c' from rfl, w1, Option.bind_some]
    refine ⟨nI P, va_up (va_up (va_up (va_up (va_up (va_up (va_up (va_up σ 2 tr) 0 (σ 0)) 6 T') 2 c') 6 (bb_sf T' 1 0)) 0 t9) 2 c') 1 (bb_sf (σ 1) 2 0), s', ?_, rfl, ?_⟩
    · rw [show (va_up (va_up (va_up (va_up σ 2 tr) 0 (σ 0)) 6 T') 2 c') 2 = c' from rfl, q3]
      rfl
    · refine ⟨⟨?_, ?_, ?_⟩, ?_, ?_, ?_⟩
      · rw [q4]; exact w2
      · rw [q4]; exact q6
      · rw [q8]; exact ZP_0 hp _ _
      · rw [q9 12 (by omega) (by omega) (by omega) (by omega), q9 13 (by omega) (by omega) (by omega) (by omega), q10 11 (by omega) (by omega)]
        exact h.2.1
      · exact ⟨0, by omega, rfl, q7, fun i hi => by omega⟩
      · rw [q10 14 (by omega) (by omega), q10 15 (by omega) (by omega), q11]
        exact h.2.2.2
  · rw [q1, Option.bind_some, if_pos rfl, q2]
    dsimp only
    rw [if_pos rfl]
    refine ⟨-20 - nI z, va_up (va_up (va_up (va_up (va_up σ 2 tr) 0 (σ 0)) 6 T') 2 c') 6 (bb_sf T' 1 0), s', ?_, rfl, ?_⟩
    · rw [show (va_up (va_up (va_up (va_up σ 2 tr) 0 (σ 0)) 6 T') 2 c') 6 = T' from rfl, q3]
    · refine ⟨?_, ?_, ?_, ?_⟩
      · rw [q6 0 (by omega), q6 8 (by omega), q5 9 (by omega) (by omega) (by omega)]
        exact h.1
      · rw [q5 12 (by omega) (by omega) (by omega), q5 13 (by omega) (by omega) (by omega), q6 11 (by omega)]
        exact h.2.1
      · exact ⟨0, by omega, rfl, q4, fun i hi => by omega⟩
      · rw [q6 14 (by omega), q6 15 (by omega), q7]
        exact h.2.2.2
