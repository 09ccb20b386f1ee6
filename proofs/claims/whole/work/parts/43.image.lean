/-! ===== image and restore ===== -/
theorem ZP_cong {a a' : bb_O} {u u' w w' : Nat → Int32} {n : Int32} (h : ZP a u n w) (e1 : a'.1 1 = a.1 1) (e2 : a'.1 2 = a.1 2) (e3 : ∀ s, s < 8 → ∀ i, i < 12 → a'.2.1 s i = a.2.1 s i) (e4 : ∀ i, i < 96 → u' i = u i) (hw : gN w 2 ≤ 6) (g0 : gN w' 0 = gN w 0) (g1 : gN w' 1 = gN w 1) (g2 : gN w' 2 = gN w 2) : ZP a' u' n w' := by
  obtain ⟨k, q, h1, h2, h3, h4, h5, h6⟩ := h
  refine ⟨k, q, h1, h2, e2.trans h3, h4, e1.trans h5, fun j hj => ?_⟩
  obtain ⟨z1, z2⟩ := h6 j hj
  have hs : (q + 8 - k + j) % 8 < 8 := Nat.mod_lt _ (by omega)
  have q1 := ZE_cong (v' := fun i => u' (12 * j + i)) z1 (fun i hi => e4 _ (by omega))
  have q2 := ZV_cong (v' := fun i => u' (12 * j + i)) z2 hw (fun i hi => e4 _ (by omega))
  constructor
  · obtain ⟨a0, a1, a2, a3, a4, a5, a6⟩ := q1
    have e := e3 _ hs
    exact ⟨(e 6 (by omega)).trans a0, (e 7 (by omega)).trans a1, (e 8 (by omega)).trans a2, (e 9 (by omega)).trans a3, (e 10 (by omega)).trans a4, (e 11 (by omega)).trans a5, fun p hp => (e p (by omega)).trans (a6 p hp)⟩
  · unfold ZV
    rw [g0, g1, g2]
    exact q2
theorem zc_tpL : ∀ (m n k : Nat) (s c : bb_O), k + m = 8 → m < n → ∃ s', F_X1_takePast_18 n s c (nI k) = some (s', c) ∧ s'.1 = s.1 ∧ (∀ j, k ≤ j → j < 8 → ∀ i, i < 12 → s'.2.1 j i = c.2.1 j i) ∧ ∀ j, j < k → s'.2.1 j = s.2.1 j := by
  intro m
  induction m with
  | zero =>
    intro n k s c h1 h2
    obtain ⟨n, rfl⟩ : ∃ m, n = m + 1 := ⟨n - 1, by omega⟩
    obtain rfl : k = 8 := by omega
    refine ⟨s, ?_, rfl, fun j h1 h2 => by omega, fun _ _ => rfl⟩
    show G_X1_takePast_18 (F_X1_takePast_18 n) s c (nI 8) = _
    unfold G_X1_takePast_18
    rw [if_pos (by decide)]
  | succ m ih =>
    intro n k s c h1 h2
    obtain ⟨n, rfl⟩ : ∃ m, n = m + 1 := ⟨n - 1, by omega⟩
    have hv : vp_in (nI k) 8 := vp_in_nI (by omega) (by omega)
    obtain ⟨s', q1, q2, q3, q4⟩ := ih n (k + 1) (bb_sA s k (va_cpy (c.2.1 k) (s.2.1 k) 0 0 12)) c (by omega) (by omega)
    refine ⟨s', ?_, q2, fun j h1 h2 i hi => ?_, fun j hj => ?_⟩
    · show G_X1_takePast_18 (F_X1_takePast_18 n) s c (nI k) = _
      unfold G_X1_takePast_18 F_X1_takePast_43
      rw [if_neg (show ¬ (8 : Int32) ≤ nI k from fun z => absurd ((nI_leI (a := 8) (b := k) (by decide) (by omega)).mp z) (by omega)), bb_g_pos hv, bb_g_pos hv, bb_g_pos hv, bb_g_pos hv, nI_clamp (by omega), nI_1, q1]
    · by_cases e : j = k
      · rw [e, q4 k (by omega), zsA_at]
        show (if 0 ≤ i ∧ i < 0 + 12 then c.2.1 k (0 + (i - 0)) else _) = _
        rw [if_pos (by omega), Nat.zero_add, Nat.sub_zero]
      · exact q3 j (by omega) h2 i hi
    · rw [q4 j (by omega)]
      exact va_up_ne _ _ (by omega)
theorem zc_tp (s c : bb_O) : ∃ s', F_X1_takePast_0 s c = some (s', c) ∧ s'.1 1 = c.1 1 ∧ s'.1 2 = c.1 2 ∧ ∀ j, j < 8 → ∀ i, i < 12 → s'.2.1 j i = c.2.1 j i := by
  obtain ⟨s', q1, q2, q3, -⟩ := zc_tpL 8 bb_N 0 (bb_sf (bb_sf s 1 (c.1 1)) 2 (c.1 2)) c (by omega) (by decide)
  exact ⟨s', q1, by rw [q2]; rfl, by rw [q2]; rfl, fun j hj => q3 j (by omega) hj⟩
theorem zm_im2 : ∀ (m n k : Nat) (s : bb_O), k + m = 96 → m < n → ∃ v, F_X5_image_28 n s (nI k) = some (1, bb_sf (bb_sf (bb_sA s 11 v) 12 (s.1 9)) 13 1) ∧ (∀ i, k ≤ i → i < 96 → v (39 + i) = s.2.1 8 i) ∧ ∀ j, j < 39 + k → v j = s.2.1 11 j := by
  intro m
  induction m with
  | zero =>
    intro n k s h1 h2
    obtain ⟨n, rfl⟩ : ∃ m, n = m + 1 := ⟨n - 1, by omega⟩
    obtain rfl : k = 96 := by omega
    refine ⟨s.2.1 11, ?_, fun j h1 h2 => by omega, fun _ _ => rfl⟩
    show G_X5_image_28 (F_X5_image_28 n) s (nI 96) = _
    unfold G_X5_image_28 F_X5_image_63 F_X5_image_68
    rw [if_pos (by decide), zsA_same]
  | succ m ih =>
    intro n k s h1 h2
    obtain ⟨n, rfl⟩ : ∃ m, n = m + 1 := ⟨n - 1, by omega⟩
    obtain ⟨v, q1, q2, q3⟩ := ih n (k + 1) (bb_sA s 11 (upd (s.2.1 11) (39 + k) (s.2.1 8 k))) (by omega) (by omega)
    have ei : (39 : Int32) + nI k = nI (39 + k) := by rw [fa_lit 39, nI_add]
    refine ⟨v, ?_, fun i h1 h2 => ?_, fun j hj => ?_⟩
    · show G_X5_image_28 (F_X5_image_28 n) s (nI k) = _
      unfold G_X5_image_28 F_X5_image_49
      rw [if_neg (show ¬ (96 : Int32) ≤ nI k from fun z => absurd ((nI_leI (a := 96) (b := k) (by decide) (by omega)).mp z) (by omega)), ei, bb_g_pos (vp_in_nI (by omega) (by omega)), bb_g_pos (vp_in_nI (by omega) (by omega)), nI_clamp (n := 39 + k) (by omega), nI_clamp (n := k) (by omega), nI_1, q1, zsA2]
      rfl
    · by_cases e : i = k
      · rw [e, q3 _ (by omega), zsA_at, zu_s]
      · exact q2 i (by omega) h2
    · rw [q3 j (by omega), zsA_at, zu_n _ _ (by omega)]
theorem zm_im1 : ∀ (m n k : Nat) (s : bb_O), k + m = 39 → m < n → ∃ v, F_X5_image_2 n s (nI k) = some (1, bb_sf (bb_sf (bb_sA s 11 v) 12 (s.1 9)) 13 1) ∧ (∀ i, i < 96 → v (39 + i) = s.2.1 8 i) ∧ (∀ i, k ≤ i → i < 39 → v i = s.2.1 0 i) ∧ ∀ j, j < k → v j = s.2.1 11 j := by
  intro m
  induction m with
  | zero =>
    intro n k s h1 h2
    obtain ⟨n, rfl⟩ : ∃ m, n = m + 1 := ⟨n - 1, by omega⟩
    obtain rfl : k = 39 := by omega
    obtain ⟨v, q1, q2, q3⟩ := zm_im2 96 bb_N 0 s (by omega) (by decide)
    refine ⟨v, ?_, fun i hi => q2 i (by omega) hi, fun j h1 h2 => by omega, fun j hj => q3 j (by omega)⟩
    show G_X5_image_2 (F_X5_image_2 n) s (nI 39) = _
    unfold G_X5_image_2
    rw [if_pos (by decide)]
    exact q1
  | succ m ih =>
    intro n k s h1 h2
    obtain ⟨n, rfl⟩ : ∃ m, n = m + 1 := ⟨n - 1, by omega⟩
    obtain ⟨v, q1, q2, q3, q4⟩ := ih n (k + 1) (bb_sA s 11 (upd (s.2.1 11) k (s.2.1 0 k))) (by omega) (by omega)
    refine ⟨v, ?_, q2, fun i h1 h2 => ?_, fun j hj => ?_⟩
    · show G_X5_image_2 (F_X5_image_2 n) s (nI k) = _
      unfold G_X5_image_2 F_X5_image_20
      rw [if_neg (show ¬ (39 : Int32) ≤ nI k from fun z => absurd ((nI_leI (a := 39) (b := k) (by decide) (by omega)).mp z) (by omega)), bb_g_pos (vp_in_nI (by omega) (by omega)), bb_g_pos (vp_in_nI (by omega) (by omega)), nI_clamp (n := k) (by omega), nI_1, q1, zsA2]
      rfl
    · by_cases e : i = k
      · rw [e, q4 _ (by omega), zsA_at, zu_s]
      · exact q3 i (by omega) h2
    · rw [q4 j (by omega), zsA_at, zu_n _ _ (by omega)]
theorem q_image {σ : bb_H} {μ : bb_O} (h : ZR σ μ) : ZO (F_X4_image_0 σ) (F_X5_image_0 μ) := by
  obtain ⟨hc, hi, hp⟩ := h.1
  obtain ⟨t, f1, f2⟩ := zc_take (t := σ 3) hc
  obtain ⟨a', g1, g2, g3, g4⟩ := zc_tp (σ 4) (σ 1)
  obtain ⟨v, q1, q2, q3, -⟩ := zm_im1 39 bb_N 0 μ (by omega) (by decide)
  have hv : ∀ i, i < 39 → v i = μ.2.1 0 i := fun i hi => q3 i (by omega) hi
  have gg : ∀ i, i < 39 → gN v i = gN (μ.2.1 0) i := fun i hi => by unfold gN; rw [hv i hi]
  unfold F_X4_image_0 F_X4_image_27 F_X5_image_0
  rw [f1, Option.bind_some]
  rw [show (va_up (va_up σ 3 (t, σ 0).1) 0 (t, σ 0).2) 4 = σ 4 from rfl, show (va_up (va_up σ 3 (t, σ 0).1) 0 (t, σ 0).2) 1 = σ 1 from rfl, g1, Option.bind_some]
  refine ⟨1, _, _, rfl, q1, ⟨h.1, Or.inr ⟨rfl, rfl, f2.cong hv, hi.cong hv, ?_⟩, h.2.2.1, h.2.2.2⟩⟩
  exact ZP_cong hp g2 g3 g4 q2 hi.2.2.1.2 (gg 0 (by omega)) (gg 1 (by omega)) (gg 2 (by omega))
theorem zm_re2 : ∀ (m n k : Nat) (s : bb_O), k + m = 96 → m < n → ∃ u, F_X5_restore_38 n s (nI k) = some (1, bb_sf (bb_sA s 8 u) 9 (s.1 12)) ∧ (∀ i, k ≤ i → i < 96 → u i = s.2.1 11 (39 + i)) ∧ ∀ j, j < k → u j = s.2.1 8 j := by
  intro m
  induction m with
  | zero =>
    intro n k s h1 h2
    obtain ⟨n, rfl⟩ : ∃ m, n = m + 1 := ⟨n - 1, by omega⟩
    obtain rfl : k = 96 := by omega
    refine ⟨s.2.1 8, ?_, fun j h1 h2 => by omega, fun _ _ => rfl⟩
    show G_X5_restore_38 (F_X5_restore_38 n) s (nI 96) = _
    unfold G_X5_restore_38 F_X5_restore_73
    rw [if_pos (by decide), zsA_same]
  | succ m ih =>
    intro n k s h1 h2
    obtain ⟨n, rfl⟩ : ∃ m, n = m + 1 := ⟨n - 1, by omega⟩
    obtain ⟨v, q1, q2, q3⟩ := ih n (k + 1) (bb_sA s 8 (upd (s.2.1 8) k (s.2.1 11 (39 + k)))) (by omega) (by omega)
    have ei : (39 : Int32) + nI k = nI (39 + k) := by rw [fa_lit 39, nI_add]
    refine ⟨v, ?_, fun i h1 h2 => ?_, fun j hj => ?_⟩
    · show G_X5_restore_38 (F_X5_restore_38 n) s (nI k) = _
      unfold G_X5_restore_38 F_X5_restore_59
      rw [if_neg (show ¬ (96 : Int32) ≤ nI k from fun z => absurd ((nI_leI (a := 96) (b := k) (by decide) (by omega)).mp z) (by omega)), ei, bb_g_pos (vp_in_nI (by omega) (by omega)), bb_g_pos (vp_in_nI (by omega) (by omega)), nI_clamp (n := 39 + k) (by omega), nI_clamp (n := k) (by omega), nI_1, q1, zsA2]
      rfl
    · by_cases e : i = k
      · rw [e, q3 _ (by omega), zsA_at, zu_s]
      · exact q2 i (by omega) h2
    · rw [q3 j (by omega), zsA_at, zu_n _ _ (by omega)]
theorem zm_re1 : ∀ (m n k : Nat) (s : bb_O), k + m = 39 → m < n → ∃ v u, F_X5_restore_12 n s (nI k) = some (1, bb_sf (bb_sA (bb_sA s 0 v) 8 u) 9 (s.1 12)) ∧ (∀ i, i < 96 → u i = s.2.1 11 (39 + i)) ∧ (∀ i, k ≤ i → i < 39 → v i = s.2.1 11 i) ∧ ∀ j, j < k → v j = s.2.1 0 j := by
  intro m
  induction m with
  | zero =>
    intro n k s h1 h2
    obtain ⟨n, rfl⟩ : ∃ m, n = m + 1 := ⟨n - 1, by omega⟩
    obtain rfl : k = 39 := by omega
    obtain ⟨u, q1, q2, q3⟩ := zm_re2 96 bb_N 0 s (by omega) (by decide)
    refine ⟨s.2.1 0, u, ?_, fun i hi => q2 i (by omega) hi, fun j h1 h2 => by omega, fun j hj => rfl⟩
    show G_X5_restore_12 (F_X5_restore_12 n) s (nI 39) = _
    unfold G_X5_restore_12
    rw [if_pos (by decide), zsA_same]
    exact q1
  | succ m ih =>
    intro n k s h1 h2
    obtain ⟨n, rfl⟩ : ∃ m, n = m + 1 := ⟨n - 1, by omega⟩
    obtain ⟨v, u, q1, q2, q3, q4⟩ := ih n (k + 1) (bb_sA s 0 (upd (s.2.1 0) k (s.2.1 11 k))) (by omega) (by omega)
    refine ⟨v, u, ?_, q2, fun i h1 h2 => ?_, fun j hj => ?_⟩
    · show G_X5_restore_12 (F_X5_restore_12 n) s (nI k) = _
      unfold G_X5_restore_12 F_X5_restore_30
      rw [if_neg (show ¬ (39 : Int32) ≤ nI k from fun z => absurd ((nI_leI (a := 39) (b := k) (by decide) (by omega)).mp z) (by omega)), bb_g_pos (vp_in_nI (by omega) (by omega)), bb_g_pos (vp_in_nI (by omega) (by omega)), nI_clamp (n := k) (by omega), nI_1, q1, zsA2]
      rfl
    · by_cases e : i = k
      · rw [e, q4 _ (by omega), zsA_at, zu_s]
      · exact q3 i (by omega) h2
    · rw [q4 j (by omega), zsA_at, zu_n _ _ (by omega)]
theorem q_restore {σ : bb_H} {μ : bb_O} (h : ZR σ μ) : ZO (F_X4_restore_0 σ) (F_X5_restore_0 μ) := by
  unfold F_X4_restore_0 F_X5_restore_0
  rcases h.2.1 with ⟨k1, k2⟩ | ⟨k1, k2, hc, hi, hp⟩
  · rw [if_pos k1, if_pos k2]
    exact ZO.one h _
  · rw [k1, k2, if_neg z10, if_neg z10]
    obtain ⟨t, f1, f2⟩ := zc_take (t := σ 0) hc
    obtain ⟨a', g1, g2, g3, g4⟩ := zc_tp (σ 1) (σ 4)
    obtain ⟨v, u, q1, q2, q3, -⟩ := zm_re1 39 bb_N 0 μ (by omega) (by decide)
    have hv : ∀ i, i < 39 → v i = μ.2.1 11 i := fun i hi => q3 i (by omega) hi
    have gg : ∀ i, i < 39 → gN v i = gN (μ.2.1 11) i := fun i hi => by unfold gN; rw [hv i hi]
    rw [f1, Option.bind_some]
    rw [show (va_up (va_up σ 0 (t, σ 3).1) 3 (t, σ 3).2) 4 = σ 4 from rfl, show (va_up (va_up σ 0 (t, σ 3).1) 3 (t, σ 3).2) 1 = σ 1 from rfl, g1, Option.bind_some]
    refine ⟨1, _, _, rfl, q1, ⟨⟨f2.cong hv, hi.cong hv, ?_⟩, Or.inr ⟨k1, k2, hc, hi, hp⟩, h.2.2.1, h.2.2.2⟩⟩
    exact ZP_cong hp g2 g3 g4 q2 hi.2.2.1.2 (gg 0 (by omega)) (gg 1 (by omega)) (gg 2 (by omega))
