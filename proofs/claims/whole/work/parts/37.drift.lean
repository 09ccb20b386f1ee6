/-! ===== drift ===== -/
theorem zsomeN (x : Int32) : ∃ m, x = nI m := ⟨x.toBitVec.toNat, Int32.toBitVec_inj.mp (by
  show x.toBitVec = BitVec.ofNat 32 x.toBitVec.toNat
  rw [BitVec.ofNat_toNat, BitVec.setWidth_eq])⟩
theorem zdraw (x : Int32) : ∃ d, d < 2 ^ 31 ∧ ((x * 1103515245 + 12345) &&& 2147483647) = nI d ∧ ((((x.toInt64) * 1103515245) + 12345) &&& 2147483647).toInt32 = nI d := by
  obtain ⟨m, hm⟩ := zsomeN (x * 1103515245 + 12345)
  refine ⟨m % 2 ^ 31, Nat.mod_lt _ (by decide), ?_, ?_⟩
  · rw [hm, show (2147483647 : Int32) = nI (2 ^ 31 - 1) from rfl, fa_mask]
  · rw [Int64.toInt32_and, Int64.toInt32_add, Int64.toInt32_mul, Int32.toInt32_toInt64, show (1103515245 : Int64).toInt32 = 1103515245 from rfl, show (12345 : Int64).toInt32 = 12345 from rfl, show (2147483647 : Int64).toInt32 = nI (2 ^ 31 - 1) from rfl, hm, fa_mask]
theorem zstray {c : bb_O} {w : Nat → Int32} (hc : RC c w) (hi : ZI w) {d : Nat} (hd : d < 2 ^ 31) (h8 : w 8 = nI d) (h2 : 0 < gN w 2) : ∃ c' w', F_X0_stray_26 c = some c' ∧ RC c' w' ∧ ZI w' ∧ (∀ i, i < 3 → w' i = w i) ∧ ∀ (k : bb_O → Int32 → Int32 → Option (Int32 × bb_O)) (μ : bb_O) (x1 x2 : Int32), μ.2.1 0 = w → F_X5_drift_82 k μ x1 x2 = F_X5_drift_164 k (bb_sA μ 0 w') x1 x2 := by
  have hp6 := hi.2.2.1.2
  have hp : d / 65536 % gN w 2 < gN w 2 := Nat.mod_lt _ h2
  have hwy : d / 128 % 4 < 4 := Nat.mod_lt _ (by omega)
  have ep : nI d / 65536 % nI (gN w 2) = nI (d / 65536 % gN w 2) := by
    rw [show nI d / 65536 = nI (d / 65536) from pk_div (d := 65536) hd (by decide) (by decide)]
    exact zmod (by have := Nat.div_le_self d 65536; omega) h2 (by omega)
  have ew : nI d / 128 % 4 = nI (d / 128 % 4) := by
    rw [show nI d / 128 = nI (d / 128) from pk_div (d := 128) hd (by decide) (by decide)]
    exact zmod (d := 4) (by have := Nat.div_le_self d 128; omega) (by decide) (by decide)
  have c2 : c.1 2 = nI (gN w 2) := hc.1.2.2.1.trans hi.2.2.1.1
  have c8 : c.1 8 = nI d := hc.1.2.2.2.2.2.2.2.2.trans h8
  have hz : ¬ nI (gN w 2) = 0 := nI_ne0 (by omega) (by omega)
  generalize d / 65536 % gN w 2 = p at hp ep
  generalize d / 128 % 4 = y at hwy ew
  have hcell := (hi.2.2.2.2 p hp).2.1
  have cc : c.2.1 10 p = nI (gN w (10 + 5 * p)) := ((hc.2 p (by omega)).2.1).trans hcell.1
  have v1 : vp_in (nI p) 6 := vp_in_nI (by omega) (by omega)
  have v2 : vp_in (nI (10 + 5 * p)) 39 := vp_in_nI (by omega) (by omega)
  have k1 : (nI p).toNatClampNeg = p := nI_clamp (by omega)
  have k2 : (nI (10 + 5 * p)).toNatClampNeg = 10 + 5 * p := nI_clamp (by omega)
  have ei : (9 : Int32) + 5 * nI p + 1 = nI (10 + 5 * p) := by rw [fa_lit 9, fa_lit 5, pk_mul, nI_add, nI_1]; congr 1; omega
  have hmod : ∀ (k : bb_O → Int32 → Int32 → Option (Int32 × bb_O)) (μ : bb_O) (x1 x2 : Int32), μ.2.1 0 = w → F_X5_drift_82 k μ x1 x2 = F_X5_drift_164 k (bb_sA μ 0 (if bt (w 5) p = false ∧ ¬ zbes (gN w 0) (gN w 1) (gN w (10 + 5 * p)) y = -4 then upd w (10 + 5 * p) (zbes (gN w 0) (gN w 1) (gN w (10 + 5 * p)) y) else w)) x1 x2 := by
    intro k μ x1 x2 hw
    have ht : F_X5_told_0 μ (nI p) 1 = some (nI (gN w (10 + 5 * p))) := by
      rw [show (1 : Int32) = nI 1 from rfl, zm_told hw (by omega) (by omega), show 9 + 5 * p + 1 = 10 + 5 * p by omega, hcell.1]
    unfold F_X5_drift_82 F_X5_drift_157 F_X5_drift_163
    simp only [hw, h8, hi.2.2.1.1, bb_g_pos hz, ep, ew, ht, Option.bind_some, zm_bes hw hi hcell.2 hwy, zm_isFree hw (show p < 32 by omega), ei, bb_g_pos v2, k2]
    by_cases q : bt (w 5) p = false
    · rw [if_pos q, if_neg z10]
      by_cases q2 : zbes (gN w 0) (gN w 1) (gN w (10 + 5 * p)) y = -4
      · rw [if_pos q2, if_neg (fun z => z.2 q2), ← hcell.1, zup_same]
      · rw [if_neg q2, if_pos ⟨q, q2⟩]
    · rw [if_neg q, if_pos rfl, if_neg (fun z => q z.1), ← hcell.1, zup_same]
  unfold F_X0_stray_26 F_X0_stray_81
  rw [c2, c8, ep, ew, bb_g_pos hz, bb_g_pos v1, k1, cc, zc_bes hc hi hcell.2 hwy, Option.bind_some, zc_isFree hc (show p < 32 by omega), Option.bind_some, bb_g_pos v1]
  by_cases q : bt (w 5) p = false
  · rw [if_pos q, if_neg z10]
    rcases zbes_is (R := gN w 0) (by have := hi.2.1.2.1; omega) hcell.2 y with e | ⟨t, ht, e⟩
    · rw [e, if_pos rfl]
      refine ⟨c, w, rfl, hc, hi, fun _ _ => rfl, fun k μ x1 x2 hw => ?_⟩
      rw [hmod k μ x1 x2 hw, if_neg (fun z => z.2 e)]
    · rw [e, if_neg (zne4 (by have := hi.cells; omega))]
      refine ⟨_, upd w (10 + 5 * p) (nI t), rfl, RC_sA10 hc (by omega) _, ZI_set1 hi p ht, fun i h => zu_n _ _ (by omega), fun k μ x1 x2 hw => ?_⟩
      rw [hmod k μ x1 x2 hw, if_pos ⟨q, by rw [e]; exact zne4 (by have := hi.cells; omega)⟩, e]
  · rw [if_neg q, if_pos rfl]
    refine ⟨c, w, rfl, hc, hi, fun _ _ => rfl, fun k μ x1 x2 hw => ?_⟩
    rw [hmod k μ x1 x2 hw, if_neg (fun z => q z.1)]
theorem q_driL {N : Nat} (hN : N ≤ 40) : ∀ (m n k : Nat) (σ : bb_H) (μ : bb_O), ZR σ μ → 0 < gN (μ.2.1 0) 2 → k + m = N → m < n → ZO (F_X4_drift_45 n σ (nI N) (nI k)) (F_X5_drift_45 n μ (nI N) (nI k)) := by
  intro m
  induction m with
  | zero =>
    intro n k σ μ h h0 h1 h2
    obtain ⟨n, rfl⟩ : ∃ m, n = m + 1 := ⟨n - 1, by omega⟩
    obtain rfl : k = N := by omega
    show ZO (G_X4_drift_45 (F_X4_drift_45 n) σ (nI k) (nI k)) (G_X5_drift_45 (F_X5_drift_45 n) μ (nI k) (nI k))
    unfold G_X4_drift_45 G_X5_drift_45
    rw [if_pos (nI_le (by omega) (by omega)), if_pos (nI_le (by omega) (by omega)), h.1.1.1.2.2.2.2.1]
    exact ZO.one h _
  | succ m ih =>
    intro n k σ μ h h0 h1 h2
    obtain ⟨n, rfl⟩ : ∃ m, n = m + 1 := ⟨n - 1, by omega⟩
    obtain ⟨hc, hi, hp⟩ := h.1
    obtain ⟨a', u, n', e1, e2, e3⟩ := zkeep hc hi hp
    obtain ⟨d, hd, d1, d2⟩ := zdraw (μ.2.1 0 8)
    have hp6 := hi.2.2.1.2
    have hi1 : ZI (upd (μ.2.1 0) 8 (nI d)) := ZI_of hi (fun i z => zu_n _ _ (by omega)) ((zu_n _ _ (by omega)).trans hi.2.2.2.1.1) hi.2.2.2.1.2
    obtain ⟨c1, w1, f1, f2, f3, f4, f5⟩ := zstray (RC_sf8 hc (nI d)) hi1 hd (zu_s _ _ _) (by rw [zg_n _ _ (by omega)]; exact h0)
    obtain ⟨c', e4, e5⟩ := zc_pass f2 f3
    have e6 := zm_goesBy (μ := bb_sA (bb_sA (upd μ.1 9 n', va_up μ.2.1 8 u, μ.2.2) 0 (upd (μ.2.1 0) 8 (nI d))) 0 w1) (w := w1) rfl f3
    have g : ∀ i, i < 3 → gN (zps w1) i = gN (μ.2.1 0) i := fun i hi => by
      unfold gN
      rw [zps_hi _ (by omega), f4 i hi, zu_n _ _ (by omega)]
    show ZO (G_X4_drift_45 (F_X4_drift_45 n) σ (nI N) (nI k)) (G_X5_drift_45 (F_X5_drift_45 n) μ (nI N) (nI k))
    unfold G_X4_drift_45 G_X5_drift_45
    have hn : ¬ nI N ≤ nI k := fun z => absurd ((nI_leI (a := N) (b := k) (by omega) (by omega)).mp z) (by omega)
    rw [if_neg hn, if_neg hn, e1, Option.bind_some, e2, Option.bind_some]
    rw [show (va_up (va_up σ 1 (a', σ 0).1) 0 (a', σ 0).2) 0 = σ 0 from rfl]
    unfold F_X0_stray_0
    rw [if_pos (show 0 < (σ 0).1 2 by rw [hc.1.2.2.1, hi.2.2.1.1]; exact (nI_ltI (a := 0) (by omega) (by omega)).mpr h0), show ((σ 0).1 8 * 1103515245 + 12345) &&& 2147483647 = nI d by rw [hc.1.2.2.2.2.2.2.2.2]; exact d1, f1, Option.bind_some]
    rw [show (va_up (va_up (va_up σ 1 (a', σ 0).1) 0 (a', σ 0).2) 0 c1) 0 = c1 from rfl, e4, Option.bind_some, nI_1]
    rw [show ((upd μ.1 9 n', va_up μ.2.1 8 u, μ.2.2) : bb_O).2.1 0 = μ.2.1 0 from rfl, d2, f5 _ _ _ _ rfl]
    unfold F_X5_drift_164 F_X5_drift_169
    rw [e6, Option.bind_some, nI_1]
    refine ih n (k + 1) _ _ ?_ ?_ (by omega) (by omega)
    · exact ⟨⟨e5, zps_ZI f3, e3.w (g 0 (by omega)) (g 1 (by omega)) (g 2 (by omega))⟩, h.2.1, h.2.2.1, h.2.2.2⟩
    · show 0 < gN (zps w1) 2
      rw [g 2 (by omega)]
      exact h0
theorem q_drift {σ : bb_H} {μ : bb_O} (h : ZR σ μ) (x : Int32) : ZO (F_X4_drift_0 σ x) (F_X5_drift_0 μ x) := by
  obtain ⟨hc, hi, hp⟩ := h.1
  have hp6 := hi.2.2.1.2
  unfold F_X4_drift_0 F_X5_drift_0
  rcases zgd x 1 40 (l := 1) (h := 40) (by decide) (by decide) with ⟨h3, e5, e6⟩ | ⟨h3, e5, e6⟩
  · simp only [e5, e6, Option.bind_some, z10, ↓reduceIte]
    obtain ⟨k, hk0, hk, rfl⟩ := zrg (lo := 1) (hi := 40) (by decide) (by decide) h3
    rw [hc.1.2.2.2.2.2.1, hc.1.2.2.1]
    by_cases q0 : μ.2.1 0 2 = 0
    · rw [if_pos q0, if_pos q0]
      exact ZO.one h _
    · rw [if_neg q0, if_neg q0]
      by_cases q : μ.2.1 0 4 + nI k ≤ 9999
      · rw [if_pos q, if_pos q]
        exact q_driL hk k bb_N 0 σ μ h (Nat.pos_of_ne_zero (fun z => q0 (by rw [hi.2.2.1.1, z]; rfl))) (by omega) (show k < 200 by omega)
      · rw [if_neg q, if_neg q]
        exact ZO.one h _
  · simp only [e5, e6, Option.bind_some, z10, ↓reduceIte]
    exact ZO.one h _
