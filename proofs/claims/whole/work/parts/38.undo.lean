/-! ===== undo ===== -/
theorem zm_ud {b : Nat} (hb : b ≤ 84) : ∀ (m n p : Nat) (s : bb_O), p + m = 6 → m < n → ∃ w, F_X5_undo_30 n s (nI b) (nI p) = some (s.1 9, bb_sA s 0 w) ∧ (∀ i, p ≤ i → i < 6 → w (3 + i) = s.2.1 8 (b + i) ∧ w (10 + 5 * i) = s.2.1 8 (b + (6 + i))) ∧ ∀ j, (j < 3 + p ∨ 9 ≤ j) → (∀ i, p ≤ i → i < 6 → j ≠ 10 + 5 * i) → w j = s.2.1 0 j := by
  intro m
  induction m with
  | zero =>
    intro n p s h1 h2
    obtain ⟨n, rfl⟩ : ∃ m, n = m + 1 := ⟨n - 1, by omega⟩
    obtain rfl : p = 6 := by omega
    refine ⟨s.2.1 0, ?_, fun j h1 h2 => by omega, fun _ _ _ => rfl⟩
    show G_X5_undo_30 (F_X5_undo_30 n) s (nI b) (nI 6) = _
    unfold G_X5_undo_30
    rw [if_pos (by decide), zsA_same]
  | succ m ih =>
    intro n p s h1 h2
    obtain ⟨n, rfl⟩ : ∃ m, n = m + 1 := ⟨n - 1, by omega⟩
    obtain ⟨w, q1, q2, q3⟩ := ih n (p + 1) (bb_sA s 0 (upd (upd (s.2.1 0) (3 + p) (s.2.1 8 (b + p))) (10 + 5 * p) (s.2.1 8 (b + (6 + p))))) (by omega) (by omega)
    have e1 : (3 : Int32) + nI p = nI (3 + p) := by rw [fa_lit 3, nI_add]
    have e2 : nI b + nI p = nI (b + p) := nI_add _ _
    have e3 : nI b + (6 : Int32) + nI p = nI (b + (6 + p)) := by rw [fa_lit 6, nI_add, nI_add, Nat.add_assoc]
    have e4 : (9 : Int32) + 5 * nI p + 1 = nI (10 + 5 * p) := by rw [fa_lit 9, fa_lit 5, pk_mul, nI_add, nI_1]; congr 1; omega
    refine ⟨w, ?_, fun i h1 h2 => ?_, fun j hj hj2 => ?_⟩
    · show G_X5_undo_30 (F_X5_undo_30 n) s (nI b) (nI p) = _
      unfold G_X5_undo_30 F_X5_undo_52 F_X5_undo_76
      rw [if_neg (show ¬ (6 : Int32) ≤ nI p from fun z => absurd ((nI_leI (a := 6) (b := p) (by decide) (by omega)).mp z) (by omega)), e1, e2, e3, e4, bb_g_pos (vp_in_nI (by omega) (by omega)), bb_g_pos (vp_in_nI (by omega) (by omega)), bb_g_pos (vp_in_nI (by omega) (by omega)), bb_g_pos (vp_in_nI (by omega) (by omega)), nI_clamp (n := b + p) (by omega), nI_clamp (n := 3 + p) (by omega), nI_clamp (n := b + (6 + p)) (by omega), nI_clamp (n := 10 + 5 * p) (by omega), nI_1, zsA2, zsA_at]
      rw [show (bb_sA s 0 (upd (s.2.1 0) (3 + p) (s.2.1 8 (b + p)))).2.1 8 = s.2.1 8 from rfl, q1, zsA2]
      rfl
    · by_cases e : i = p
      · subst e
        rw [q3 (3 + i) (by omega) (fun k h1 h2 => by omega), q3 (10 + 5 * i) (by omega) (fun k h1 h2 => by omega), zsA_at, zu_n _ _ (by omega), zu_s, zu_s]
        exact ⟨rfl, rfl⟩
      · exact q2 i (by omega) h2
    · rw [q3 j (by omega) (fun i h1 h2 => hj2 i (by omega) h2), zsA_at, zu_n _ _ (hj2 p (by omega) (by omega)), zu_n _ _ (by omega)]
theorem q_undo {σ : bb_H} {μ : bb_O} (h : ZR σ μ) : ZO (F_X4_undo_0 σ) (F_X5_undo_0 μ) := by
  obtain ⟨hc, hi, k, q, hk, hq, h1, h2, h3, h4⟩ := h.1
  have hp6 := hi.2.2.1.2
  unfold F_X4_undo_0 F_X5_undo_0
  rw [h1, h2]
  by_cases e : k = 0
  · subst e
    rw [if_pos (show nI 0 = 0 from rfl), if_pos (show nI 0 = 0 from rfl)]
    exact ZO.one h _
  · have nz : ¬ nI k = 0 := nI_ne0 (by omega) (by omega)
    rw [if_neg nz, if_neg nz]
    have eq : (nI q + 8 - 1) % 8 = nI ((q + 7) % 8) := by
      rw [show nI q + 8 - 1 = nI (q + 7) by rw [fa_lit 8, nI_add, show q + 8 = q + 7 + 1 by omega, nI_pred]]
      exact zmod (d := 8) (by omega) (by decide) (by decide)
    have hv : vp_in (nI ((q + 7) % 8)) 8 := vp_in_nI (by omega) (by omega)
    have cq : (nI ((q + 7) % 8)).toNatClampNeg = (q + 7) % 8 := nI_clamp (by omega)
    have ek : nI k - 1 = nI (k - 1) := by rw [show (1 : Int32) = nI 1 from rfl, zs_le (by omega)]
    have er : (q + 8 - k + (k - 1)) % 8 = (q + 7) % 8 := by omega
    obtain ⟨⟨z0, z1, z2, z3, z4, z5, z6⟩, ⟨K, hK, eK⟩, z8⟩ := h4 (k - 1) (by omega)
    rw [er] at z0 z1 z2 z3 z4 z5 z6
    obtain ⟨w, f1, f2, f3⟩ := zm_ud (b := 12 * (k - 1)) (by omega) 6 bb_N 0 (bb_sf μ 9 (nI (k - 1))) (by omega) (by decide)
    have g0 : ∀ i, i < 6 → w (3 + i) = μ.2.1 8 (12 * (k - 1) + i) := fun i hi => (f2 i (by omega) hi).1
    have g1 : ∀ i, i < 6 → w (10 + 5 * i) = μ.2.1 8 (12 * (k - 1) + (6 + i)) := fun i hi => (f2 i (by omega) hi).2
    have g2 : ∀ j, (j < 3 ∨ 9 ≤ j) → (∀ i, i < 6 → j ≠ 10 + 5 * i) → w j = μ.2.1 0 j := fun j a b => f3 j (by omega) (fun i _ h2 => b i h2)
    have n0 : ∀ i, i < 3 → gN w i = gN (μ.2.1 0) i := fun i hi => by unfold gN; rw [g2 i (by omega) (fun k hk => by omega)]
    unfold F_X5_undo_20 F_X1_bringBack_0 F_X1_bringBack_34 F_X1_bringBack_64 F_X1_bringBack_88
    rw [h1, h3, eq, ek]
    rw [if_pos (show 0 < nI k from (nI_ltI (a := 0) (by omega) (by omega)).mpr (by omega))]
    rw [show (bb_sf (bb_sf (σ 1) 1 (nI ((q + 7) % 8))) 2 ((bb_sf (σ 1) 1 (nI ((q + 7) % 8))).1 2 - 1)) = bb_sf (bb_sf (σ 1) 1 (nI ((q + 7) % 8))) 2 (nI (k - 1)) by rw [show (bb_sf (σ 1) 1 (nI ((q + 7) % 8))).1 2 = nI k from h1, ek]]
    rw [show (bb_sf (bb_sf (σ 1) 1 (nI ((q + 7) % 8))) 2 (nI (k - 1))).1 1 = nI ((q + 7) % 8) from rfl]
    simp only [bb_g_pos hv, cq, Option.bind_some]
    rw [show (12 : Int32) * (bb_sf μ 9 (nI (k - 1))).1 9 = nI (12 * (k - 1)) by rw [fa_lit 12]; exact pk_mul _ _, show (0 : Int32) = nI 0 from rfl, f1]
    refine ⟨nI (k - 1), _, _, rfl, rfl, ⟨⟨?_, ?_, ?_⟩, h.2.1, h.2.2.1, h.2.2.2⟩⟩
    · refine ⟨⟨?_, ?_, ?_, ?_, ?_, ?_, ?_, ?_, ?_⟩, fun p hp => ⟨?_, ?_, ?_, ?_, ?_⟩⟩
      · exact hc.1.1.trans (g2 0 (by omega) (fun k hk => by omega)).symm
      · exact hc.1.2.1.trans (g2 1 (by omega) (fun k hk => by omega)).symm
      · exact hc.1.2.2.1.trans (g2 2 (by omega) (fun k hk => by omega)).symm
      · exact z0.trans (g0 0 (by omega)).symm
      · exact z1.trans (g0 2 (by omega)).symm
      · exact z2.trans (g0 1 (by omega)).symm
      · exact z3.trans (g0 3 (by omega)).symm
      · exact z4.trans (g0 4 (by omega)).symm
      · exact z5.trans (g0 5 (by omega)).symm
      · exact (hc.2 p hp).1.trans (g2 (9 + 5 * p) (by omega) (fun k hk => by omega)).symm
      · show (if 0 ≤ p ∧ p < 0 + 6 then (σ 1).2.1 ((q + 7) % 8) (0 + (p - 0)) else _) = w (10 + 5 * p)
        rw [if_pos (by omega), Nat.zero_add, Nat.sub_zero]
        exact (z6 p hp).trans (g1 p hp).symm
      · exact (hc.2 p hp).2.2.1.trans (g2 (11 + 5 * p) (by omega) (fun k hk => by omega)).symm
      · exact (hc.2 p hp).2.2.2.1.trans (g2 (12 + 5 * p) (by omega) (fun k hk => by omega)).symm
      · exact (hc.2 p hp).2.2.2.2.trans (g2 (13 + 5 * p) (by omega) (fun k hk => by omega)).symm
    · show ZI w
      have hcl := hi.cells
      obtain ⟨a0, a1, a2, a3, a4⟩ := hi
      have hK36 : K < 36 := by omega
      have w3 : w 3 = nI K := (g0 0 (by omega)).trans eK
      have n3 : gN w 3 = K := by unfold gN; rw [w3]; exact nI_clamp (by omega)
      refine ⟨?_, ?_, ?_, ?_, fun p hp => ?_⟩
      · rw [n0 0 (by omega), g2 0 (by omega) (fun k hk => by omega)]; exact a0
      · rw [n0 1 (by omega), g2 1 (by omega) (fun k hk => by omega)]; exact a1
      · rw [n0 2 (by omega), g2 2 (by omega) (fun k hk => by omega)]; exact a2
      · rw [n3, n0 0 (by omega), n0 1 (by omega)]; exact ⟨w3, hK⟩
      · rw [n0 2 (by omega)] at hp
        obtain ⟨t, ht, et⟩ := z8 p hp
        have wp : w (10 + 5 * p) = nI t := (g1 p (by omega)).trans et
        have np : gN w (10 + 5 * p) = t := by unfold gN; rw [wp]; exact nI_clamp (by omega)
        have o : ∀ j, (j = 9 + 5 * p ∨ j = 11 + 5 * p ∨ j = 12 + 5 * p ∨ j = 13 + 5 * p) → w j = μ.2.1 0 j ∧ gN w j = gN (μ.2.1 0) j := fun j hj => by
          have := g2 j (by omega) (fun i hi => by omega)
          exact ⟨this, by unfold gN; rw [this]⟩
        obtain ⟨b0, b1, b2, b3, b4⟩ := a4 p hp
        rw [np, n0 0 (by omega), n0 1 (by omega), (o (9 + 5 * p) (by omega)).1, (o (9 + 5 * p) (by omega)).2, (o (11 + 5 * p) (by omega)).1, (o (11 + 5 * p) (by omega)).2, (o (12 + 5 * p) (by omega)).1, (o (12 + 5 * p) (by omega)).2, (o (13 + 5 * p) (by omega)).1, (o (13 + 5 * p) (by omega)).2]
        exact ⟨b0, ⟨wp, ht⟩, b2, b3, b4⟩
    · refine ⟨k - 1, (q + 7) % 8, by omega, by omega, rfl, rfl, rfl, fun j hj => ?_⟩
      rw [show ((q + 7) % 8 + 8 - (k - 1) + j) % 8 = (q + 8 - k + j) % 8 by omega]
      obtain ⟨y1, y2, y3⟩ := h4 j (by omega)
      refine ⟨y1, ?_⟩
      show ZV (fun i => μ.2.1 8 (12 * j + i)) w
      unfold ZV
      rw [n0 0 (by omega), n0 1 (by omega), n0 2 (by omega)]
      exact ⟨y2, y3⟩
