/-! ===== copy ===== -/
theorem zm_cp1 {r a b : Nat} (hr : r < 4) (hb : a + b ≤ 24) (y z : Int32) : ∀ (m n k : Nat) (s : bb_O), k + m = b → m < n → (∀ i, i < k → s.2.2 17 i = s.2.2 16 (24 * r + a + i)) → ∃ s', F_X5_copy_91 n s (nI r) (nI a) y z (nI b) (nI k) = F_X5_copy_128 bb_N s' y z (nI b) 0 ∧ s'.1 = s.1 ∧ s'.2.1 = s.2.1 ∧ s'.2.2 16 = s.2.2 16 ∧ ∀ i, i < b → s'.2.2 17 i = s.2.2 16 (24 * r + a + i) := by
  intro m
  induction m with
  | zero =>
    intro n k s h1 h2 h3
    obtain ⟨n, rfl⟩ : ∃ m, n = m + 1 := ⟨n - 1, by omega⟩
    obtain rfl : k = b := by omega
    refine ⟨s, ?_, rfl, rfl, rfl, h3⟩
    show G_X5_copy_91 (F_X5_copy_91 n) s (nI r) (nI a) y z (nI k) (nI k) = _
    unfold G_X5_copy_91
    rw [if_pos (nI_le (by omega) (by omega))]
  | succ m ih =>
    intro n k s h1 h2 h3
    obtain ⟨n, rfl⟩ : ∃ m, n = m + 1 := ⟨n - 1, by omega⟩
    obtain ⟨s', q1, q2, q3, q4, q5⟩ := ih n (k + 1) (bb_sB s 17 (vp_updL (s.2.2 17) k (s.2.2 16 (24 * r + a + k)))) (by omega) (by omega) (fun i hi => by
      show vp_updL (s.2.2 17) k (s.2.2 16 (24 * r + a + k)) i = s.2.2 16 (24 * r + a + i)
      by_cases e : i = k
      · rw [e, pk_uLs]
      · rw [pk_uLn e]; exact h3 i (by omega))
    have ei : (24 : Int32) * nI r + nI a + nI k = nI (24 * r + a + k) := by rw [fa_lit 24, pk_mul, nI_add, nI_add]
    refine ⟨s', ?_, q2, q3, q4, q5⟩
    show G_X5_copy_91 (F_X5_copy_91 n) s (nI r) (nI a) y z (nI b) (nI k) = _
    unfold G_X5_copy_91 F_X5_copy_119
    rw [if_neg (show ¬ nI b ≤ nI k from fun z => absurd ((nI_leI (a := b) (b := k) (by omega) (by omega)).mp z) (by omega)), ei, bb_g_pos (vp_in_nI (by omega) (by omega)), bb_g_pos (vp_in_nI (by omega) (by omega)), nI_clamp (by omega), nI_clamp (by omega), nI_1, q1]
theorem zm_cp2 {t d b : Nat} (ht : t < 4) (hb : d + b ≤ 24) : ∀ (m n k : Nat) (s : bb_O), k + m = b → m < n → ∃ s', F_X5_copy_128 n s (nI t) (nI d) (nI b) (nI k) = some (nI b, s') ∧ s'.1 = s.1 ∧ s'.2.1 = s.2.1 ∧ (∀ i, k ≤ i → i < b → s'.2.2 16 (24 * t + d + i) = s.2.2 17 i) ∧ ∀ j, (j < 24 * t + d + k ∨ 24 * t + d + b ≤ j) → s'.2.2 16 j = s.2.2 16 j := by
  intro m
  induction m with
  | zero =>
    intro n k s h1 h2
    obtain ⟨n, rfl⟩ : ∃ m, n = m + 1 := ⟨n - 1, by omega⟩
    obtain rfl : k = b := by omega
    refine ⟨s, ?_, rfl, rfl, fun i h1 h2 => by omega, fun _ _ => rfl⟩
    show G_X5_copy_128 (F_X5_copy_128 n) s (nI t) (nI d) (nI k) (nI k) = _
    unfold G_X5_copy_128
    rw [if_pos (nI_le (by omega) (by omega))]
  | succ m ih =>
    intro n k s h1 h2
    obtain ⟨n, rfl⟩ : ∃ m, n = m + 1 := ⟨n - 1, by omega⟩
    obtain ⟨s', q1, q2, q3, q4, q5⟩ := ih n (k + 1) (bb_sB s 16 (vp_updL (s.2.2 16) (24 * t + d + k) (s.2.2 17 k))) (by omega) (by omega)
    have ei : (24 : Int32) * nI t + nI d + nI k = nI (24 * t + d + k) := by rw [fa_lit 24, pk_mul, nI_add, nI_add]
    refine ⟨s', ?_, q2, q3, fun i h1 h2 => ?_, fun j hj => ?_⟩
    · show G_X5_copy_128 (F_X5_copy_128 n) s (nI t) (nI d) (nI b) (nI k) = _
      unfold G_X5_copy_128 F_X5_copy_157
      rw [if_neg (show ¬ nI b ≤ nI k from fun z => absurd ((nI_leI (a := b) (b := k) (by omega) (by omega)).mp z) (by omega)), ei, bb_g_pos (vp_in_nI (by omega) (by omega)), bb_g_pos (vp_in_nI (by omega) (by omega)), nI_clamp (by omega), nI_clamp (by omega), nI_1, q1]
    · by_cases e : i = k
      · rw [e, q5 _ (by omega)]
        exact pk_uLs
      · exact q4 i (by omega) h2
    · rw [q5 j (by omega)]
      exact pk_uLn (by omega)
/-- lane and size of one sheet, as the class sees it -/
theorem zmiss {σ : bb_H} {μ : bb_O} (h : ZR σ μ) {r : Nat} (hr : r < 4) : (μ.2.1 14 r = -1 ∧ F_X2_isMissing_0 (σ (7 + r)) = some 1) ∨ ∃ l N : Nat, l < 4 ∧ N ≤ 24 ∧ μ.2.1 14 r = nI l ∧ (σ (7 + r)).1 0 = nI l ∧ (σ (7 + r)).1 1 = nI N ∧ μ.2.1 15 r = nI N ∧ F_X2_isMissing_0 (σ (7 + r)) = some 0 := by
  obtain ⟨z1, z2, z3⟩ := ZS_get h hr
  unfold F_X2_isMissing_0 F_X2_isMissing_13
  rw [bb_g_pos bz0, bb_g_pos bz1, z1]
  rcases z2 with ⟨z2, z4⟩ | ⟨l', N, hl', hN, z2, z4, z5⟩
  · left
    exact ⟨z2, by rw [z2, if_pos rfl]⟩
  · right
    have nm : ¬ nI l' = -1 := fun q => absurd (show nI l' < 0 by rw [q]; decide) (nI_pos (by omega))
    exact ⟨l', N, hl', hN, z2, z2, z4, z5, by rw [z2, if_neg nm]⟩
theorem zwhy {μ : bb_O} {r l l' N : Nat} (hr : r < 4) (hl : l < 4) (hl' : l' < 4) (hN : N ≤ 24) (e1 : μ.2.1 14 r = nI l) (e2 : μ.2.1 15 r = nI N) (x n : Int32) : (l = l' ∧ zfits x n N ∧ F_X5_why_0 μ (nI r) (nI l') x n = some 0) ∨ (l ≠ l' ∧ F_X5_why_0 μ (nI r) (nI l') x n = some (-12)) ∨ (l = l' ∧ ¬ zfits x n N ∧ F_X5_why_0 μ (nI r) (nI l') x n = some (-13)) := by
  unfold F_X5_why_0 F_X5_why_51 F_X5_why_57
  rw [bb_g_pos (vp_in_nI hr (by omega)), bb_g_pos (vp_in_nI hr (by omega)), bb_g_pos (vp_in_nI hr (by omega)), nI_clamp (by omega), e1, e2, if_pos (nI_pos' (by omega))]
  by_cases e : l = l'
  · subst e
    rw [if_pos rfl]
    by_cases f : zfits x n N
    · left
      refine ⟨rfl, f, ?_⟩
      obtain ⟨a, b, f1, rfl, rfl⟩ := f
      rw [if_neg (nI_pos (by omega)), if_neg (nI_pos (by omega)), nI_l (by omega), nI_l (by omega), nI_l (by omega), lN_add]
      rw [if_pos (Int32.not_lt.mp (fun q => absurd ((lN_lt (by omega) (by omega)).mp ((zcmp_gt _ _).mp q)) (by omega)))]
    · right
      right
      refine ⟨rfl, f, ?_⟩
      by_cases hx : x < 0
      · rw [if_pos hx]
      · rw [if_neg hx]
        by_cases hn : n < 0
        · rw [if_pos hn]
        · rw [if_neg hn]
          obtain ⟨a, ha, rfl⟩ := znat hx
          obtain ⟨b, hb, rfl⟩ := znat hn
          rw [zfits_nI ha hb (by omega)] at f
          rw [nI_l ha, nI_l hb, nI_l (by omega), lN_add]
          rw [if_neg (fun q => absurd ((zcmp_gt _ _).mpr ((pk_lLT (a := N) (b := a + b) (by omega) (by omega)).mpr (by omega))) (Int32.not_lt.mpr q))]
  · right
    left
    exact ⟨e, by rw [if_neg (fun q => e ((nI_eq (by omega) (by omega)).mp q))]⟩
theorem q_copy {σ : bb_H} {μ : bb_O} (h : ZR σ μ) (x i y j n : Int32) : ZO (F_X4_copy_0 σ x i y j n) (F_X5_copy_0 μ x i y j n) := by
  unfold F_X4_copy_0 F_X5_copy_0 F_X4_copy_14 F_X5_copy_14 F_X4_copy_48 F_X5_copy_34 F_X4_copy_90 F_X4_copy_111 F_X5_copy_78
  rcases zsheet x with ⟨r, hr, rfl, e1, e2⟩ | ⟨e1, e2⟩
  · rcases zsheet y with ⟨t, ht, rfl, e3, e4⟩ | ⟨e3, e4⟩
    · have hv : vp_in (nI r) 4 := vp_in_nI hr (by omega)
      have hv2 : vp_in (nI t) 4 := vp_in_nI ht (by omega)
      simp only [e1, e2, e3, e4, Option.bind_some, z10, ↓reduceIte, bb_g_pos hv, bb_g_pos hv2, nI_clamp (show r < 2 ^ 31 by omega), nI_clamp (show t < 2 ^ 31 by omega)]
      rcases zmiss h hr with ⟨m1, m2⟩ | ⟨l, N, hl, hN, m1, m2, m3, m4, m5⟩
      · rw [m1, m2, Option.bind_some, if_neg z10, if_pos (show (-1 : Int32) < 0 by decide)]
        exact ZO.one h _
      · rw [m5, m1, Option.bind_some, if_pos rfl, if_neg (nI_pos (by omega)), m2]
        rcases zmiss h ht with ⟨o1, o2⟩ | ⟨l', M, hl', hM, o1, o2, o3, o4, o5⟩
        · rw [o1, o2, Option.bind_some, if_neg z10, if_neg (show ¬ (0 : Int32) ≤ -1 by decide)]
          exact ZO.one h _
        · rw [o5, o1, Option.bind_some, if_pos rfl, if_pos (nI_pos' (by omega)), o2]
          rcases zwhy ht hl' hl hM o1 o4 j n with ⟨rfl, f1, f2⟩ | ⟨f1, f2⟩ | ⟨rfl, f1, f2⟩
          · rw [f2, Option.bind_some, if_pos rfl, if_pos rfl]
            rcases zreach o3 hM j n with ⟨-, g2⟩ | ⟨g2, -⟩
            · rcases zwhy hr hl hl hN m1 m4 i n with ⟨-, f3, f4⟩ | ⟨f3, f4⟩ | ⟨-, f3, f4⟩
              · rcases zreach m3 hN i n with ⟨-, g3⟩ | ⟨g3, -⟩
                · obtain ⟨d, b, p1, rfl, rfl⟩ := f1
                  obtain ⟨a, b', p2, rfl, p3⟩ := f3
                  obtain rfl : b = b' := (nI_eq (by omega) (by omega)).mp p3
                  simp only [f4, g2, g3, Option.bind_some, z10, ↓reduceIte, nI_clamp (show a < 2 ^ 31 by omega), nI_clamp (show b < 2 ^ 31 by omega), nI_clamp (show d < 2 ^ 31 by omega), show (0 : Int32) ≤ 0 from by decide]
                  rw [bb_g_pos (nI_pos (by omega)), bb_g_pos (nI_pos (by omega)), bb_g_pos (nI_pos (by omega)), bb_g_pos (by omega), bb_g_pos (by omega)]
                  obtain ⟨s1, a1, a2, a3, a4, a5⟩ := zm_cp1 hr (show a + b ≤ 24 by omega) (nI t) (nI d) b bb_N 0 μ (by omega) (show b < 200 by omega) (fun i hi => by omega)
                  obtain ⟨s2, b1, b2, b3, b4, b5⟩ := zm_cp2 ht (show d + b ≤ 24 by omega) b bb_N 0 s1 (by omega) (show b < 200 by omega)
                  rw [show F_X5_copy_91 bb_N μ (nI r) (nI a) (nI t) (nI d) (nI b) 0 = _ from a1, show F_X5_copy_128 bb_N s1 (nI t) (nI d) (nI b) 0 = _ from b1]
                  obtain ⟨y1, y2, y3⟩ := ZS_get h ht
                  obtain ⟨-, -, x3⟩ := ZS_get h hr
                  refine ⟨nI b, va_up σ (7 + t) (bb_sB (σ (7 + t)) 2 (va_cpy ((σ (7 + r)).2.2 2) ((σ (7 + t)).2.2 2) a d b)), s2, rfl, rfl, ZR_row h ht (by rw [b2, a2]) (fun k _ => by rw [b3, a3]) ?_ (fun j hj hn => ⟨by rw [b3, a3], by rw [b3, a3], fun i hi => ?_⟩)⟩
                  · rw [b3, a3]
                    refine ⟨y1, y2, fun i hi => ?_⟩
                    show (if d ≤ i ∧ i < d + b then (σ (7 + r)).2.2 2 (a + (i - d)) else (σ (7 + t)).2.2 2 i) = s2.2.2 16 (24 * t + i)
                    by_cases e : d ≤ i ∧ i < d + b
                    · rw [if_pos e]
                      have q1 := b4 (i - d) (by omega) (by omega)
                      rw [show 24 * t + d + (i - d) = 24 * t + i by omega, a5 (i - d) (by omega)] at q1
                      have q2 := x3 (a + (i - d)) (by omega)
                      rw [q2, q1]
                      show μ.2.2 16 (24 * r + (a + (i - d))) = _
                      rw [show 24 * r + (a + (i - d)) = 24 * r + a + (i - d) by omega]
                    · rw [if_neg e, b5 _ (by omega), a4]
                      exact y3 i hi
                  · rw [b5 _ (by omega), a4]
                · exact absurd f3 g3
              · exact absurd rfl f3
              · rcases zreach m3 hN i n with ⟨g3, -⟩ | ⟨-, g3⟩
                · exact absurd g3 f3
                · simp only [f4, g2, g3, Option.bind_some, z10, ↓reduceIte, show ¬ (0 : Int32) ≤ -13 from by decide]
                  exact ZO.one h _
            · exact absurd f1 g2
          · rw [f2, Option.bind_some, if_neg (show ¬ (-12 : Int32) = 0 by decide), if_neg (show ¬ (0 : Int32) ≤ -12 by decide), if_neg (fun q => f1 ((nI_eq (by omega) (by omega)).mp q).symm)]
            exact ZO.one h _
          · rw [f2, Option.bind_some, if_neg (show ¬ (-13 : Int32) = 0 by decide), if_neg (show ¬ (0 : Int32) ≤ -13 by decide), if_pos rfl]
            rcases zreach m3 hN i n with ⟨g3, g4⟩ | ⟨-, g4⟩
            · rcases zreach o3 hM j n with ⟨g2, -⟩ | ⟨-, g2⟩
              · exact absurd g2 f1
              · simp only [g2, g4, Option.bind_some, z10, ↓reduceIte]
                exact ZO.one h _
            · simp only [g4, Option.bind_some, ↓reduceIte]
              exact ZO.one h _
    · simp only [e1, e2, e3, e4, Option.bind_some, z10, ↓reduceIte]
      exact ZO.one h _
  · simp only [e1, e2, Option.bind_some, z10, ↓reduceIte]
    exact ZO.one h _
