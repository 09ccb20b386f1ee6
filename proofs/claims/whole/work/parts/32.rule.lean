theorem ZI_set1 {w : Nat → Int32} (hi : ZI w) (p : Nat) {k : Nat} (hk : k < gN w 0 * gN w 1) : ZI (upd w (10 + 5 * p) (nI k)) := by
  have hm := hi.cells
  have hg : ∀ i, i ≠ 10 + 5 * p → gN (upd w (10 + 5 * p) (nI k)) i = gN w i := fun i q => zg_n _ _ q
  have hv : ∀ i, i ≠ 10 + 5 * p → upd w (10 + 5 * p) (nI k) i = w i := fun i q => zu_n _ _ q
  have hs : upd w (10 + 5 * p) (nI k) (10 + 5 * p) = nI k := zu_s _ _ _
  have gs : gN (upd w (10 + 5 * p) (nI k)) (10 + 5 * p) = k := by unfold gN; rw [hs]; exact nI_clamp (by omega)
  generalize upd w (10 + 5 * p) (nI k) = v at hg hv hs gs ⊢
  obtain ⟨a0, a1, a2, a3, a4⟩ := hi
  refine ⟨?_, ?_, ?_, ?_, fun q hq => ?_⟩
  · rw [hg 0 (by omega), hv 0 (by omega)]; exact a0
  · rw [hg 1 (by omega), hv 1 (by omega)]; exact a1
  · rw [hg 2 (by omega), hv 2 (by omega)]; exact a2
  · rw [hg 3 (by omega), hv 3 (by omega), hg 0 (by omega), hg 1 (by omega)]; exact a3
  · rw [hg 2 (by omega)] at hq
    obtain ⟨b0, b1, b2, b3, b4⟩ := a4 q hq
    rw [hg 0 (by omega), hg 1 (by omega), hg (9 + 5 * q) (by omega), hv (9 + 5 * q) (by omega), hg (11 + 5 * q) (by omega), hv (11 + 5 * q) (by omega), hg (12 + 5 * q) (by omega), hv (12 + 5 * q) (by omega), hg (13 + 5 * q) (by omega), hv (13 + 5 * q) (by omega)]
    by_cases e : q = p
    · subst e
      rw [hs, gs]
      exact ⟨b0, ⟨rfl, hk⟩, b2, b3, b4⟩
    · rw [hg (10 + 5 * q) (by omega), hv (10 + 5 * q) (by omega)]
      exact ⟨b0, b1, b2, b3, b4⟩
theorem ZI_set2 {w : Nat → Int32} (hi : ZI w) (p : Nat) {k : Nat} (hk : k < 10) : ZI (upd w (11 + 5 * p) (nI k)) := by
  have hg : ∀ i, i ≠ 11 + 5 * p → gN (upd w (11 + 5 * p) (nI k)) i = gN w i := fun i q => zg_n _ _ q
  have hv : ∀ i, i ≠ 11 + 5 * p → upd w (11 + 5 * p) (nI k) i = w i := fun i q => zu_n _ _ q
  have hs : upd w (11 + 5 * p) (nI k) (11 + 5 * p) = nI k := zu_s _ _ _
  have gs : gN (upd w (11 + 5 * p) (nI k)) (11 + 5 * p) = k := by unfold gN; rw [hs]; exact nI_clamp (by omega)
  generalize upd w (11 + 5 * p) (nI k) = v at hg hv hs gs ⊢
  obtain ⟨a0, a1, a2, a3, a4⟩ := hi
  refine ⟨?_, ?_, ?_, ?_, fun q hq => ?_⟩
  · rw [hg 0 (by omega), hv 0 (by omega)]; exact a0
  · rw [hg 1 (by omega), hv 1 (by omega)]; exact a1
  · rw [hg 2 (by omega), hv 2 (by omega)]; exact a2
  · rw [hg 3 (by omega), hv 3 (by omega), hg 0 (by omega), hg 1 (by omega)]; exact a3
  · rw [hg 2 (by omega)] at hq
    obtain ⟨b0, b1, b2, b3, b4⟩ := a4 q hq
    rw [hg 0 (by omega), hg 1 (by omega), hg (9 + 5 * q) (by omega), hv (9 + 5 * q) (by omega), hg (10 + 5 * q) (by omega), hv (10 + 5 * q) (by omega), hg (12 + 5 * q) (by omega), hv (12 + 5 * q) (by omega), hg (13 + 5 * q) (by omega), hv (13 + 5 * q) (by omega)]
    by_cases e : q = p
    · subst e
      rw [hs, gs]
      exact ⟨b0, b1, ⟨rfl, hk⟩, b3, b4⟩
    · rw [hg (11 + 5 * q) (by omega), hv (11 + 5 * q) (by omega)]
      exact ⟨b0, b1, b2, b3, b4⟩
theorem ZI_set4 {w : Nat → Int32} (hi : ZI w) (p : Nat) {k : Nat} (hk : k < 64) : ZI (upd w (13 + 5 * p) (nI k)) := by
  have hg : ∀ i, i ≠ 13 + 5 * p → gN (upd w (13 + 5 * p) (nI k)) i = gN w i := fun i q => zg_n _ _ q
  have hv : ∀ i, i ≠ 13 + 5 * p → upd w (13 + 5 * p) (nI k) i = w i := fun i q => zu_n _ _ q
  have hs : upd w (13 + 5 * p) (nI k) (13 + 5 * p) = nI k := zu_s _ _ _
  have gs : gN (upd w (13 + 5 * p) (nI k)) (13 + 5 * p) = k := by unfold gN; rw [hs]; exact nI_clamp (by omega)
  generalize upd w (13 + 5 * p) (nI k) = v at hg hv hs gs ⊢
  obtain ⟨a0, a1, a2, a3, a4⟩ := hi
  refine ⟨?_, ?_, ?_, ?_, fun q hq => ?_⟩
  · rw [hg 0 (by omega), hv 0 (by omega)]; exact a0
  · rw [hg 1 (by omega), hv 1 (by omega)]; exact a1
  · rw [hg 2 (by omega), hv 2 (by omega)]; exact a2
  · rw [hg 3 (by omega), hv 3 (by omega), hg 0 (by omega), hg 1 (by omega)]; exact a3
  · rw [hg 2 (by omega)] at hq
    obtain ⟨b0, b1, b2, b3, b4⟩ := a4 q hq
    rw [hg 0 (by omega), hg 1 (by omega), hg (9 + 5 * q) (by omega), hv (9 + 5 * q) (by omega), hg (10 + 5 * q) (by omega), hv (10 + 5 * q) (by omega), hg (11 + 5 * q) (by omega), hv (11 + 5 * q) (by omega), hg (12 + 5 * q) (by omega), hv (12 + 5 * q) (by omega)]
    by_cases e : q = p
    · subst e
      rw [hs, gs]
      exact ⟨b0, b1, b2, b3, ⟨rfl, hk⟩⟩
    · rw [hg (13 + 5 * q) (by omega), hv (13 + 5 * q) (by omega)]
      exact ⟨b0, b1, b2, b3, b4⟩
/-! ===== rule ===== -/
theorem q_rule {σ : bb_H} {μ : bb_O} (h : ZR σ μ) (x y z : Int32) : ZO (F_X4_rule_0 σ x y z) (F_X5_rule_0 μ x y z) := by
  obtain ⟨hc, hi, hp⟩ := h.1
  have hp6 := hi.2.2.1.2
  unfold F_X4_rule_0 F_X5_rule_0 F_X4_rule_48 F_X4_rule_87 F_X5_rule_34 F_X5_rule_40 F_X5_rule_57 F_X5_rule_77
  rcases zperson h x with ⟨p, hpp, rfl, e1, e2⟩ | ⟨e1, e2⟩
  · have hv : vp_in (nI p) 6 := vp_in_nI (by omega) (by omega)
    have m2 : (9 : Int32) + 5 * nI p + 2 = nI (11 + 5 * p) := by rw [fa_lit 9, fa_lit 5, fa_lit 2, pk_mul, nI_add, nI_add]; congr 1; omega
    have m4 : (9 : Int32) + 5 * nI p + 4 = nI (13 + 5 * p) := by rw [fa_lit 9, fa_lit 5, fa_lit 4, pk_mul, nI_add, nI_add]; congr 1; omega
    have v2 : vp_in (nI (11 + 5 * p)) 39 := vp_in_nI (by omega) (by omega)
    have v4 : vp_in (nI (13 + 5 * p)) 39 := vp_in_nI (by omega) (by omega)
    have c2 : (nI (11 + 5 * p)).toNatClampNeg = 11 + 5 * p := nI_clamp (by omega)
    have c4 : (nI (13 + 5 * p)).toNatClampNeg = 13 + 5 * p := nI_clamp (by omega)
    have cp : (nI p).toNatClampNeg = p := nI_clamp (by omega)
    simp only [e1, e2, Option.bind_some, z10, ↓reduceIte, bb_g_pos hv, cp, m2, m4, bb_g_pos v2, bb_g_pos v4, c2, c4]
    rw [zin y 0 1 (l := 0) (h := 1) (by decide) (by decide), Option.bind_some]
    by_cases y0 : y = 0
    · subst y0
      rw [if_pos (show (0 : Int32) ≤ 0 ∧ (0 : Int32) ≤ 1 by decide), if_neg z10, if_pos rfl, if_pos rfl, if_neg (show ¬ (0 : Int32) = 1 by decide), if_pos rfl]
      rcases zgd z 0 9 (l := 0) (h := 9) (by decide) (by decide) with ⟨h3, e5, e6⟩ | ⟨h3, e5, e6⟩
      · simp only [e5, e6, Option.bind_some, z10, ↓reduceIte]
        obtain ⟨k, -, hk, rfl⟩ := zrg (lo := 0) (hi := 9) (by decide) (by decide) h3
        refine ⟨μ.2.1 0 (11 + 5 * p), va_up σ 0 (bb_sA (σ 0) 11 (upd ((σ 0).2.1 11) p (nI k))), (μ.1, va_up μ.2.1 0 (upd (μ.2.1 0) (11 + 5 * p) (nI k)), μ.2.2), by rw [(hc.2 p (by omega)).2.2.1], rfl, ⟨⟨RC_sA11 hc (by omega) _, ZI_set2 hi p (by omega), hp.w (zg_n _ _ (by omega)) (zg_n _ _ (by omega)) (zg_n _ _ (by omega))⟩, h.2.1, h.2.2.1, h.2.2.2⟩⟩
      · simp only [e5, e6, Option.bind_some, z10, ↓reduceIte]
        exact ZO.one h _
    · rw [if_neg y0, if_neg y0, if_neg y0]
      by_cases y1 : y = 1
      · subst y1
        rw [if_pos (show (0 : Int32) ≤ 1 ∧ (1 : Int32) ≤ 1 by decide), if_neg z10, if_pos rfl]
        rcases zgd z 0 63 (l := 0) (h := 63) (by decide) (by decide) with ⟨h3, e5, e6⟩ | ⟨h3, e5, e6⟩
        · simp only [e5, e6, Option.bind_some, z10, ↓reduceIte]
          obtain ⟨k, -, hk, rfl⟩ := zrg (lo := 0) (hi := 63) (by decide) (by decide) h3
          refine ⟨μ.2.1 0 (13 + 5 * p), va_up σ 0 (bb_sA (σ 0) 13 (upd ((σ 0).2.1 13) p (nI k))), (μ.1, va_up μ.2.1 0 (upd (μ.2.1 0) (13 + 5 * p) (nI k)), μ.2.2), by rw [(hc.2 p (by omega)).2.2.2.2], rfl, ⟨⟨RC_sA13 hc (by omega) _, ZI_set4 hi p (by omega), hp.w (zg_n _ _ (by omega)) (zg_n _ _ (by omega)) (zg_n _ _ (by omega))⟩, h.2.1, h.2.2.1, h.2.2.2⟩⟩
        · simp only [e5, e6, Option.bind_some, z10, ↓reduceIte]
          exact ZO.one h _
      · rw [if_neg y1, if_neg (show ¬ ((0 : Int32) ≤ y ∧ y ≤ 1) from fun q => by
          obtain ⟨k, -, hk, rfl⟩ := zrg (lo := 0) (hi := 1) (by decide) (by decide) q
          match k, hk with
          | 0, _ => exact y0 rfl
          | 1, _ => exact y1 rfl), if_pos rfl]
        exact ZO.one h _
  · simp only [e1, e2, Option.bind_some, z10, ↓reduceIte]
    exact ZO.one h _
/-! ===== type ===== -/
theorem zchar : ∀ c, c < 127 → vp_nar .char (((nI c).toUInt32 % 65536).toInt32) = nI c := by decide +kernel
theorem q_type {σ : bb_H} {μ : bb_O} (h : ZR σ μ) (x : Int32) : ZO (F_X4_type_0 σ x) (F_X5_type_0 μ x) := by
  obtain ⟨t, ht, t1, t2, t3⟩ := h.2.2.1
  unfold F_X4_type_0 F_X5_type_0 F_X5_type_38 F_X5_type_48 F_X3_add_0 F_X3_add_27 F_X3_add_37
  rcases zgd x 32 126 (l := 32) (h := 126) (by decide) (by decide) with ⟨h3, e5, e6⟩ | ⟨h3, e5, e6⟩
  · simp only [e5, e6, Option.bind_some, z10, ↓reduceIte, t1, t2]
    obtain ⟨k, hk0, hk, rfl⟩ := zrg (lo := 32) (hi := 126) (by decide) (by decide) h3
    by_cases q : t = 90
    · subst q
      rw [if_neg (show ¬ nI 90 < (90 : Int32) by decide), if_pos (show nI 90 = (90 : Int32) from rfl)]
      exact ZO.one h _
    · have v : vp_in (nI t) 90 := vp_in_nI (by omega) (by omega)
      rw [if_pos (show nI t < (90 : Int32) from (nI_ltI (a := t) (b := 90) (by omega) (by decide)).mpr (by omega)), if_neg (show ¬ nI t = (90 : Int32) from fun z => q ((nI_eq (a := t) (b := 90) (by omega) (by decide)).mp z)), if_neg (nI_pos (by omega)), if_neg (show ¬ (90 : Int32) ≤ nI t from fun z => absurd ((nI_leI (a := 90) (b := t) (by decide) (by omega)).mp z) (by omega)), bb_g_pos v, bb_g_pos v, Option.bind_some, nI_clamp (by omega), zchar k (by omega)]
      refine ⟨nI (t + 1), va_up σ 6 (bb_sf (bb_sA (σ 6) 0 (upd ((σ 6).2.1 0) t (nI k))) 1 (nI (t + 1))), bb_sf (bb_sA μ 3 (upd (μ.2.1 3) t (nI k))) 4 (nI (t + 1)), ?_, ?_, ⟨h.1, h.2.1, ⟨t + 1, by omega, rfl, rfl, fun i hl => ?_⟩, h.2.2.2⟩⟩
      · rw [show (bb_sA (σ 6) 0 (upd ((σ 6).2.1 0) t (nI k))).1 1 = nI t from t1, nI_1]; rfl
      · rw [show (bb_sA μ 3 (upd (μ.2.1 3) t (nI k))).1 4 = nI t from t2, nI_1]; rfl
      · show ∃ ch : Nat, 32 ≤ ch ∧ ch ≤ 126 ∧ upd ((σ 6).2.1 0) t (nI k) i = nI ch ∧ upd (μ.2.1 3) t (nI k) i = nI ch
        by_cases e : i = t
        · subst e
          exact ⟨k, hk0, hk, zu_s _ _ _, zu_s _ _ _⟩
        · rw [zu_n _ _ e, zu_n _ _ e]
          exact t3 i (by omega)
  · simp only [e5, e6, Option.bind_some, z10, ↓reduceIte]
    exact ZO.one h _
