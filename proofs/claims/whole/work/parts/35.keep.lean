/-! ===== what is kept ===== -/
theorem ZE_cong {e v v' : Nat → Int32} (h : ZE e v) (q : ∀ i, i < 12 → v' i = v i) : ZE e v' := by
  obtain ⟨a0, a1, a2, a3, a4, a5, a6⟩ := h
  refine ⟨?_, ?_, ?_, ?_, ?_, ?_, fun p hp => ?_⟩
  all_goals first | (rw [q _ (by omega)]; assumption) | (rw [q _ (by omega)]; exact a6 p hp)
theorem ZV_cong {v v' w : Nat → Int32} (h : ZV v w) (hw : gN w 2 ≤ 6) (q : ∀ i, i < 12 → v' i = v i) : ZV v' w := by
  obtain ⟨a0, a1⟩ := h
  refine ⟨?_, fun p hp => ?_⟩
  · rw [q 0 (by omega)]; exact a0
  · rw [q _ (by omega)]; exact a1 p hp
theorem zsA_at (s : bb_O) (k : Nat) (f : Nat → Int32) : (bb_sA s k f).2.1 k = f := va_up_self _ _ _
theorem zc_keep {a c : bb_O} {q k : Nat} (hq : q < 8) (hk : k ≤ 8) (h1 : a.1 1 = nI q) (h2 : a.1 2 = nI k) : ∃ a', F_X1_keep_0 a c = some (a', c) ∧ a'.1 1 = nI ((q + 1) % 8) ∧ a'.1 2 = nI (if k = 8 then 8 else k + 1) ∧ (∀ j, j ≠ q → a'.2.1 j = a.2.1 j) ∧ (∀ i, i < 6 → a'.2.1 q i = c.2.1 10 i) ∧ a'.2.1 q 6 = c.1 3 ∧ a'.2.1 q 7 = c.1 4 ∧ a'.2.1 q 8 = c.1 5 ∧ a'.2.1 q 9 = c.1 6 ∧ a'.2.1 q 10 = c.1 7 ∧ a'.2.1 q 11 = c.1 8 := by
  have hv : vp_in (nI q) 8 := vp_in_nI hq (by omega)
  unfold F_X1_keep_0 F_X1_keep_30 F_X1_keep_46 F_X1_keep_62 F_X1_keep_83 F_X1_keep_98
  rw [h1]
  simp only [bb_g_pos hv, nI_clamp (show q < 2 ^ 31 by omega), zsA2, zsA_at]
  refine ⟨_, rfl, ?_, ?_, ?_, ?_, ?_, ?_, ?_, ?_, ?_, ?_⟩
  · show ((a.1 1) + 1) % 8 = _
    rw [h1, nI_1]
    exact zmod (a := q + 1) (d := 8) (by omega) (by omega) (by omega)
  · show (if (8 : Int32) < a.1 2 + 1 then 8 else a.1 2 + 1) = _
    rw [h2, nI_1]
    by_cases e : k = 8
    · subst e
      rfl
    · rw [if_neg e, if_neg (show ¬ (8 : Int32) < nI (k + 1) from fun z => absurd ((nI_ltI (a := 8) (b := k + 1) (by decide) (by omega)).mp z) (by omega))]
  · intro j hj
    exact va_up_ne _ _ hj
  · intro i hi
    show va_up a.2.1 q _ q i = _
    rw [va_up_self, zu_n _ _ (by omega), zu_n _ _ (by omega), zu_n _ _ (by omega), zu_n _ _ (by omega), zu_n _ _ (by omega), zu_n _ _ (by omega)]
    show (if 0 ≤ i ∧ i < 0 + 6 then c.2.1 10 (0 + (i - 0)) else _) = _
    rw [if_pos (by omega), Nat.zero_add, Nat.sub_zero]
  all_goals
    show va_up a.2.1 q _ q _ = _
    rw [va_up_self]
    rfl
theorem zm_sh : ∀ (m n k : Nat) (s : bb_O), k + m = 96 → 12 ≤ k → m < n → ∃ u, F_X5_notes_12 n s (nI k) = F_X5_notes_45 (bb_sf (bb_sA s 8 u) 9 7) ∧ (∀ j, k - 12 ≤ j → j < 84 → u j = s.2.1 8 (j + 12)) ∧ ∀ j, j < k - 12 → u j = s.2.1 8 j := by
  intro m
  induction m with
  | zero =>
    intro n k s h1 h0 h2
    obtain ⟨n, rfl⟩ : ∃ m, n = m + 1 := ⟨n - 1, by omega⟩
    obtain rfl : k = 96 := by omega
    refine ⟨s.2.1 8, ?_, fun j h1 h2 => by omega, fun _ _ => rfl⟩
    show G_X5_notes_12 (F_X5_notes_12 n) s (nI 96) = _
    unfold G_X5_notes_12
    rw [if_pos (by decide), zsA_same]
  | succ m ih =>
    intro n k s h1 h0 h2
    obtain ⟨n, rfl⟩ : ∃ m, n = m + 1 := ⟨n - 1, by omega⟩
    obtain ⟨u, q1, q2, q3⟩ := ih n (k + 1) (bb_sA s 8 (upd (s.2.1 8) (k - 12) (s.2.1 8 k))) (by omega) (by omega) (by omega)
    have ei : nI k - (12 : Int32) = nI (k - 12) := by rw [fa_lit 12, zs_le (by omega)]
    refine ⟨u, ?_, fun j h1 h2 => ?_, fun j hj => ?_⟩
    · show G_X5_notes_12 (F_X5_notes_12 n) s (nI k) = _
      unfold G_X5_notes_12 F_X5_notes_33
      rw [if_neg (show ¬ (96 : Int32) ≤ nI k from fun z => absurd ((nI_leI (a := 96) (b := k) (by decide) (by omega)).mp z) (by omega)), ei, bb_g_pos (vp_in_nI (by omega) (by omega)), bb_g_pos (vp_in_nI (by omega) (by omega)), nI_clamp (by omega), nI_clamp (by omega), nI_1, q1, zsA2]
    · by_cases e : j = k - 12
      · rw [q3 j (by omega), zsA_at, e, zu_s, show k - 12 + 12 = k by omega]
      · rw [q2 j (by omega) h2, zsA_at, zu_n _ _ (by omega)]
    · rw [q3 j (by omega), zsA_at, zu_n _ _ (by omega)]
theorem zm_n55 {b : Nat} (hb : b ≤ 84) : ∀ (m n p : Nat) (s : bb_O), p + m = 6 → m < n → ∃ u, F_X5_notes_55 n s (nI b) (nI p) = some (bb_sf (bb_sA s 8 u) 9 (s.1 9 + 1)) ∧ (∀ i, p ≤ i → i < 6 → u (b + i) = s.2.1 0 (3 + i) ∧ u (b + (6 + i)) = s.2.1 0 (10 + 5 * i)) ∧ ∀ j, (j < b + p ∨ b + 6 ≤ j) → (j < b + 6 + p ∨ b + 12 ≤ j) → u j = s.2.1 8 j := by
  intro m
  induction m with
  | zero =>
    intro n p s h1 h2
    obtain ⟨n, rfl⟩ : ∃ m, n = m + 1 := ⟨n - 1, by omega⟩
    obtain rfl : p = 6 := by omega
    refine ⟨s.2.1 8, ?_, fun j h1 h2 => by omega, fun _ _ _ => rfl⟩
    show G_X5_notes_55 (F_X5_notes_55 n) s (nI b) (nI 6) = _
    unfold G_X5_notes_55 F_X5_notes_110
    rw [if_pos (by decide), zsA_same]
  | succ m ih =>
    intro n p s h1 h2
    obtain ⟨n, rfl⟩ : ∃ m, n = m + 1 := ⟨n - 1, by omega⟩
    obtain ⟨u, q1, q2, q3⟩ := ih n (p + 1) (bb_sA s 8 (upd (upd (s.2.1 8) (b + p) (s.2.1 0 (3 + p))) (b + 6 + p) (s.2.1 0 (10 + 5 * p)))) (by omega) (by omega)
    have e1 : (3 : Int32) + nI p = nI (3 + p) := by rw [fa_lit 3, nI_add]
    have e2 : nI b + nI p = nI (b + p) := nI_add _ _
    have e3 : nI b + (6 : Int32) + nI p = nI (b + 6 + p) := by rw [fa_lit 6, nI_add, nI_add]
    have ht : F_X5_told_0 (bb_sA s 8 (upd (s.2.1 8) (b + p) (s.2.1 0 (3 + p)))) (nI p) 1 = some (s.2.1 0 (9 + 5 * p + 1)) := zm_told (w := s.2.1 0) rfl (p := p) (j := 1) (by omega) (by omega)
    refine ⟨u, ?_, fun i h1 h2 => ?_, fun j hj hj2 => ?_⟩
    · show G_X5_notes_55 (F_X5_notes_55 n) s (nI b) (nI p) = _
      unfold G_X5_notes_55 F_X5_notes_77 F_X5_notes_94
      rw [if_neg (show ¬ (6 : Int32) ≤ nI p from fun z => absurd ((nI_leI (a := 6) (b := p) (by decide) (by omega)).mp z) (by omega)), e1, e2, e3, bb_g_pos (vp_in_nI (by omega) (by omega)), bb_g_pos (vp_in_nI (by omega) (by omega)), nI_clamp (by omega), nI_clamp (by omega), ht, Option.bind_some, bb_g_pos (vp_in_nI (by omega) (by omega)), nI_clamp (by omega), nI_1, zsA2, zsA_at, show 9 + 5 * p + 1 = 10 + 5 * p by omega, q1, zsA2]
      rfl
    · by_cases e : i = p
      · subst e
        rw [q3 (b + i) (by omega) (by omega), q3 (b + (6 + i)) (by omega) (by omega), zsA_at, zu_n _ _ (by omega), zu_s, show b + (6 + i) = b + 6 + i by omega, zu_s]
        exact ⟨rfl, rfl⟩
      · exact q2 i (by omega) h2
    · rw [q3 j (by omega) (by omega), zsA_at, zu_n _ _ (by omega), zu_n _ _ (by omega)]
theorem zm_notes {μ : bb_O} {k : Nat} (hk : k ≤ 8) (h9 : μ.1 9 = nI k) : ∃ u, F_X5_notes_0 μ = some (upd μ.1 9 (nI (if k = 8 then 8 else k + 1)), va_up μ.2.1 8 u, μ.2.2) ∧ (∀ i, i < 6 → u (12 * (if k = 8 then 7 else k) + i) = μ.2.1 0 (3 + i) ∧ u (12 * (if k = 8 then 7 else k) + (6 + i)) = μ.2.1 0 (10 + 5 * i)) ∧ ∀ j i, j < (if k = 8 then 7 else k) → i < 12 → u (12 * j + i) = μ.2.1 8 (12 * (if k = 8 then j + 1 else j) + i) := by
  unfold F_X5_notes_0
  rw [h9]
  by_cases e : k = 8
  · subst e
    rw [if_pos (show nI 8 = (8 : Int32) from rfl)]
    obtain ⟨v, q1, q2, q3⟩ := zm_sh 84 bb_N 12 μ (by omega) (by omega) (by decide)
    rw [show (12 : Int32) = nI 12 from rfl, q1]
    unfold F_X5_notes_45
    obtain ⟨u, r1, r2, r3⟩ := zm_n55 (b := 84) (by omega) 6 bb_N 0 (bb_sf (bb_sA μ 8 v) 9 7) (by omega) (by decide)
    refine ⟨u, ?_, fun i hi => ?_, fun j i hj hi => ?_⟩
    · rw [show (12 : Int32) * (bb_sf (bb_sA μ 8 v) 9 7).1 9 = nI 84 from rfl, show (0 : Int32) = nI 0 from rfl, r1]
      unfold bb_sf bb_sA
      rw [bx_uu]
      show some (upd (upd μ.1 9 7) 9 _, _) = _
      rw [fa_upd_twice]
      rfl
    · exact r2 i (by omega) hi
    · rw [if_pos rfl] at hj ⊢
      rw [r3 (12 * j + i) (by omega) (by omega)]
      show va_up μ.2.1 8 v 8 (12 * j + i) = _
      rw [va_up_self, q2 _ (by omega) (by omega), show 12 * j + i + 12 = 12 * (j + 1) + i by omega]
  · rw [if_neg (show ¬ nI k = (8 : Int32) from fun z => e ((nI_eq (a := k) (b := 8) (by omega) (by decide)).mp z))]
    unfold F_X5_notes_45
    obtain ⟨u, r1, r2, r3⟩ := zm_n55 (b := 12 * k) (by omega) 6 bb_N 0 μ (by omega) (by decide)
    refine ⟨u, ?_, fun i hi => ?_, fun j i hj hi => ?_⟩
    · rw [h9, show (12 : Int32) * nI k = nI (12 * k) by rw [fa_lit 12, pk_mul], show (0 : Int32) = nI 0 from rfl, r1, h9, nI_1, if_neg e]
      rfl
    · rw [if_neg e]
      exact r2 i (by omega) hi
    · rw [if_neg e] at hj ⊢
      exact r3 (12 * j + i) (by omega) (by omega)
theorem zkeep {a c : bb_O} {μ : bb_O} (hc : RC c (μ.2.1 0)) (hi : ZI (μ.2.1 0)) (hp : ZP a (μ.2.1 8) (μ.1 9) (μ.2.1 0)) : ∃ a' u n, F_X1_keep_0 a c = some (a', c) ∧ F_X5_notes_0 μ = some (upd μ.1 9 n, va_up μ.2.1 8 u, μ.2.2) ∧ ZP a' u n (μ.2.1 0) := by
  have hp6 := hi.2.2.1.2
  obtain ⟨k, q, hk, hq, h1, h2, h3, h4⟩ := hp
  obtain ⟨a', e1, e2, e3, e4, e5, e6, e7, e8, e9, e10, e11⟩ := zc_keep (c := c) hq hk h3 h1
  obtain ⟨u, f1, f2, f3⟩ := zm_notes hk h2
  refine ⟨a', u, _, e1, f1, (if k = 8 then 8 else k + 1), (q + 1) % 8, by split <;> omega, by omega, e3, rfl, e2, fun j hj => ?_⟩
  by_cases e : j = (if k = 8 then 7 else k)
  · have er : ((q + 1) % 8 + 8 - (if k = 8 then 8 else k + 1) + j) % 8 = q := by
      by_cases e8 : k = 8
      · rw [if_pos e8] at e ⊢; omega
      · rw [if_neg e8] at e ⊢; omega
    rw [er]
    rw [e]
    have g0 : ∀ i, i < 6 → u (12 * (if k = 8 then 7 else k) + i) = μ.2.1 0 (3 + i) := fun i hi => (f2 i hi).1
    have g1 : ∀ i, i < 6 → u (12 * (if k = 8 then 7 else k) + (6 + i)) = μ.2.1 0 (10 + 5 * i) := fun i hi => (f2 i hi).2
    refine ⟨⟨?_, ?_, ?_, ?_, ?_, ?_, fun p hp => ?_⟩, ⟨gN (μ.2.1 0) 3, hi.2.2.2.1.2, ?_⟩, fun p hp => ⟨gN (μ.2.1 0) (10 + 5 * p), (hi.2.2.2.2 p hp).2.1.2, ?_⟩⟩
    · exact (e6.trans hc.1.2.2.2.1).trans (g0 0 (by omega)).symm
    · exact (e7.trans hc.1.2.2.2.2.1).trans (g0 2 (by omega)).symm
    · exact (e8.trans hc.1.2.2.2.2.2.1).trans (g0 1 (by omega)).symm
    · exact (e9.trans hc.1.2.2.2.2.2.2.1).trans (g0 3 (by omega)).symm
    · exact (e10.trans hc.1.2.2.2.2.2.2.2.1).trans (g0 4 (by omega)).symm
    · exact (e11.trans hc.1.2.2.2.2.2.2.2.2).trans (g0 5 (by omega)).symm
    · exact ((e5 p hp).trans (hc.2 p hp).2.1).trans (g1 p hp).symm
    · exact (g0 0 (by omega)).trans hi.2.2.2.1.1
    · exact (g1 p (by omega)).trans (hi.2.2.2.2 p hp).2.1.1
  · have hj2 : j < (if k = 8 then 7 else k) := by
      by_cases e8 : k = 8
      · rw [if_pos e8] at e hj ⊢; omega
      · rw [if_neg e8] at e hj ⊢; omega
    have hj3 : (if k = 8 then j + 1 else j) < k := by
      by_cases e8 : k = 8
      · rw [if_pos e8] at hj2 ⊢; omega
      · rw [if_neg e8] at hj2 ⊢; omega
    have er : ((q + 1) % 8 + 8 - (if k = 8 then 8 else k + 1) + j) % 8 = (q + 8 - k + (if k = 8 then j + 1 else j)) % 8 := by
      by_cases e8 : k = 8
      · rw [if_pos e8, if_pos e8]; omega
      · rw [if_neg e8, if_neg e8]; omega
    have en : (q + 8 - k + (if k = 8 then j + 1 else j)) % 8 ≠ q := by
      by_cases e8 : k = 8
      · rw [if_pos e8] at hj2 ⊢; omega
      · rw [if_neg e8] at hj2 ⊢; omega
    rw [er, e4 _ en]
    obtain ⟨z1, z2⟩ := h4 _ hj3
    exact ⟨ZE_cong z1 (fun i hi => f3 j i hj2 hi), ZV_cong z2 hp6 (fun i hi => f3 j i hj2 hi)⟩
/-! ===== minutes ===== -/
theorem q_minL {N : Nat} (hN : N ≤ 40) : ∀ (m n k : Nat) (σ : bb_H) (μ : bb_O), ZR σ μ → k + m = N → m < n → ZO (F_X4_minutes_32 n σ (nI N) (nI k)) (F_X5_minutes_33 n μ (nI N) (nI k)) := by
  intro m
  induction m with
  | zero =>
    intro n k σ μ h h1 h2
    obtain ⟨n, rfl⟩ : ∃ m, n = m + 1 := ⟨n - 1, by omega⟩
    obtain rfl : k = N := by omega
    show ZO (G_X4_minutes_32 (F_X4_minutes_32 n) σ (nI k) (nI k)) (G_X5_minutes_33 (F_X5_minutes_33 n) μ (nI k) (nI k))
    unfold G_X4_minutes_32 G_X5_minutes_33
    rw [if_pos (nI_le (by omega) (by omega)), if_pos (nI_le (by omega) (by omega)), h.1.1.1.2.2.2.2.1]
    exact ZO.one h _
  | succ m ih =>
    intro n k σ μ h h1 h2
    obtain ⟨n, rfl⟩ : ∃ m, n = m + 1 := ⟨n - 1, by omega⟩
    obtain ⟨hc, hi, hp⟩ := h.1
    obtain ⟨a', u, n', e1, e2, e3⟩ := zkeep hc hi hp
    obtain ⟨c', e4, e5⟩ := zc_pass hc hi
    have e6 := zm_goesBy (μ := (upd μ.1 9 n', va_up μ.2.1 8 u, μ.2.2)) (w := μ.2.1 0) rfl hi
    show ZO (G_X4_minutes_32 (F_X4_minutes_32 n) σ (nI N) (nI k)) (G_X5_minutes_33 (F_X5_minutes_33 n) μ (nI N) (nI k))
    unfold G_X4_minutes_32 G_X5_minutes_33 F_X5_minutes_47
    have hn : ¬ nI N ≤ nI k := fun z => absurd ((nI_leI (a := N) (b := k) (by omega) (by omega)).mp z) (by omega)
    rw [if_neg hn, if_neg hn, e1, Option.bind_some, e2, Option.bind_some, e6, Option.bind_some]
    rw [show (va_up (va_up σ 1 (a', σ 0).1) 0 (a', σ 0).2) 0 = σ 0 from rfl, e4, Option.bind_some, nI_1]
    refine ih n (k + 1) _ _ ?_ (by omega) (by omega)
    exact ⟨⟨e5, zps_ZI hi, e3.w (by unfold gN; rw [show (zgo (upd μ.1 9 n', va_up μ.2.1 8 u, μ.2.2) (μ.2.1 0)).2.1 0 = zps (μ.2.1 0) from rfl, zps_hi _ (by omega)]) (by unfold gN; rw [show (zgo (upd μ.1 9 n', va_up μ.2.1 8 u, μ.2.2) (μ.2.1 0)).2.1 0 = zps (μ.2.1 0) from rfl, zps_hi _ (by omega)]) (by unfold gN; rw [show (zgo (upd μ.1 9 n', va_up μ.2.1 8 u, μ.2.2) (μ.2.1 0)).2.1 0 = zps (μ.2.1 0) from rfl, zps_hi _ (by omega)])⟩, h.2.1, h.2.2.1, h.2.2.2⟩
theorem q_minutes {σ : bb_H} {μ : bb_O} (h : ZR σ μ) (x : Int32) : ZO (F_X4_minutes_0 σ x) (F_X5_minutes_0 μ x) := by
  unfold F_X4_minutes_0 F_X5_minutes_0
  rcases zgd x 1 40 (l := 1) (h := 40) (by decide) (by decide) with ⟨h3, e5, e6⟩ | ⟨h3, e5, e6⟩
  · simp only [e5, e6, Option.bind_some, z10, ↓reduceIte]
    obtain ⟨k, hk0, hk, rfl⟩ := zrg (lo := 1) (hi := 40) (by decide) (by decide) h3
    rw [h.1.1.1.2.2.2.2.2.1]
    by_cases q : μ.2.1 0 4 + nI k ≤ 9999
    · rw [if_pos q, if_pos q]
      exact q_minL hk k bb_N 0 σ μ h (by omega) (show k < 200 by omega)
    · rw [if_neg q, if_neg q]
      exact ZO.one h _
  · simp only [e5, e6, Option.bind_some, z10, ↓reduceIte]
    exact ZO.one h _
/-! ===== free ===== -/
theorem q_free {σ : bb_H} {μ : bb_O} (h : ZR σ μ) (x : Int32) : ZO (F_X4_free_0 σ x) (F_X5_free_0 μ x) := by
  obtain ⟨hc, hi, hp⟩ := h.1
  have hp6 := hi.2.2.1.2
  unfold F_X4_free_0 F_X5_free_0 F_X4_free_52 F_X5_free_39
  rcases zperson h x with ⟨p, hpp, rfl, e1, e2⟩ | ⟨e1, e2⟩
  · simp only [e1, e2, Option.bind_some, z10, ↓reduceIte, zc_isFree hc (show p < 32 by omega), zm_isFree (μ := μ) rfl (show p < 32 by omega)]
    by_cases q : bt (μ.2.1 0 5) p = false
    · rw [if_pos q, if_neg z10]
      exact ZO.one h _
    · rw [if_neg q, if_pos rfl]
      obtain ⟨a', u, n', e1, e2, e3⟩ := zkeep hc hi hp
      rw [e1, Option.bind_some, e2, Option.bind_some]
      refine ⟨_, va_up (va_up (va_up σ 1 a') 0 (σ 0)) 0 (bb_sf (σ 0) 4 ((μ.2.1 0 5) &&& (((1 : Int32) <<< (nI p &&& 31)) ^^^ (-1)))), (upd μ.1 9 n', va_up (va_up μ.2.1 8 u) 0 (upd (μ.2.1 0) 5 ((μ.2.1 0 5) &&& (((1 : Int32) <<< (nI p &&& 31)) ^^^ (-1)))), μ.2.2), ?_, rfl, ⟨⟨RC_sf4 hc _, ?_, ?_⟩, h.2.1, h.2.2.1, h.2.2.2⟩⟩
      · show some ((σ 0).1 4 &&& _, va_up _ _ (bb_sf (σ 0) 4 ((σ 0).1 4 &&& _))) = _
        rw [hc.1.2.2.2.2.1]
        rfl
      · show ZI (upd (μ.2.1 0) 5 ((μ.2.1 0 5) &&& (((1 : Int32) <<< (nI p &&& 31)) ^^^ (-1))))
        exact ZI_of hi (fun i z => zu_n _ _ (by omega)) ((zu_n _ _ (by omega)).trans hi.2.2.2.1.1) hi.2.2.2.1.2
      · exact e3.w (zg_n _ _ (by omega)) (zg_n _ _ (by omega)) (zg_n _ _ (by omega))
  · simp only [e1, e2, Option.bind_some, z10, ↓reduceIte]
    exact ZO.one h _
