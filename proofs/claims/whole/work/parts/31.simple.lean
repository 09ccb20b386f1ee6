theorem RC_sA9 {c : bb_O} {w : Nat → Int32} (hc : RC c w) {P : Nat} (hP : P < 6) (x : Int32) : RC (bb_sA c 9 (upd (c.2.1 9) P x)) (upd w (9 + 5 * P) x) := by
  obtain ⟨⟨a0, a1, a2, a3, a4, a5, a6, a7, a8⟩, hp⟩ := hc
  refine ⟨⟨?_, ?_, ?_, ?_, ?_, ?_, ?_, ?_, ?_⟩, fun p h => ?_⟩
  all_goals try (rw [zu_n w x (by omega)]; assumption)
  obtain ⟨b0, b1, b2, b3, b4⟩ := hp p h
  by_cases e : p = P
  · subst e
    refine ⟨?_, ?_, ?_, ?_, ?_⟩
    all_goals first | (rw [zu_n w x (by omega)]; assumption) | (rw [zu_s]; exact zu_s _ _ _)
  · rw [zu_n w x (by omega), zu_n w x (by omega), zu_n w x (by omega), zu_n w x (by omega), zu_n w x (by omega)]
    refine ⟨?_, ?_, ?_, ?_, ?_⟩
    all_goals first | assumption | (show upd (c.2.1 9) P x p = _; rw [zu_n _ _ e]; assumption)
theorem RC_sA10 {c : bb_O} {w : Nat → Int32} (hc : RC c w) {P : Nat} (hP : P < 6) (x : Int32) : RC (bb_sA c 10 (upd (c.2.1 10) P x)) (upd w (10 + 5 * P) x) := by
  obtain ⟨⟨a0, a1, a2, a3, a4, a5, a6, a7, a8⟩, hp⟩ := hc
  refine ⟨⟨?_, ?_, ?_, ?_, ?_, ?_, ?_, ?_, ?_⟩, fun p h => ?_⟩
  all_goals try (rw [zu_n w x (by omega)]; assumption)
  obtain ⟨b0, b1, b2, b3, b4⟩ := hp p h
  by_cases e : p = P
  · subst e
    refine ⟨?_, ?_, ?_, ?_, ?_⟩
    all_goals first | (rw [zu_n w x (by omega)]; assumption) | (rw [zu_s]; exact zu_s _ _ _)
  · rw [zu_n w x (by omega), zu_n w x (by omega), zu_n w x (by omega), zu_n w x (by omega), zu_n w x (by omega)]
    refine ⟨?_, ?_, ?_, ?_, ?_⟩
    all_goals first | assumption | (show upd (c.2.1 10) P x p = _; rw [zu_n _ _ e]; assumption)
theorem RC_sA11 {c : bb_O} {w : Nat → Int32} (hc : RC c w) {P : Nat} (hP : P < 6) (x : Int32) : RC (bb_sA c 11 (upd (c.2.1 11) P x)) (upd w (11 + 5 * P) x) := by
  obtain ⟨⟨a0, a1, a2, a3, a4, a5, a6, a7, a8⟩, hp⟩ := hc
  refine ⟨⟨?_, ?_, ?_, ?_, ?_, ?_, ?_, ?_, ?_⟩, fun p h => ?_⟩
  all_goals try (rw [zu_n w x (by omega)]; assumption)
  obtain ⟨b0, b1, b2, b3, b4⟩ := hp p h
  by_cases e : p = P
  · subst e
    refine ⟨?_, ?_, ?_, ?_, ?_⟩
    all_goals first | (rw [zu_n w x (by omega)]; assumption) | (rw [zu_s]; exact zu_s _ _ _)
  · rw [zu_n w x (by omega), zu_n w x (by omega), zu_n w x (by omega), zu_n w x (by omega), zu_n w x (by omega)]
    refine ⟨?_, ?_, ?_, ?_, ?_⟩
    all_goals first | assumption | (show upd (c.2.1 11) P x p = _; rw [zu_n _ _ e]; assumption)
theorem RC_sA12 {c : bb_O} {w : Nat → Int32} (hc : RC c w) {P : Nat} (hP : P < 6) (x : Int32) : RC (bb_sA c 12 (upd (c.2.1 12) P x)) (upd w (12 + 5 * P) x) := by
  obtain ⟨⟨a0, a1, a2, a3, a4, a5, a6, a7, a8⟩, hp⟩ := hc
  refine ⟨⟨?_, ?_, ?_, ?_, ?_, ?_, ?_, ?_, ?_⟩, fun p h => ?_⟩
  all_goals try (rw [zu_n w x (by omega)]; assumption)
  obtain ⟨b0, b1, b2, b3, b4⟩ := hp p h
  by_cases e : p = P
  · subst e
    refine ⟨?_, ?_, ?_, ?_, ?_⟩
    all_goals first | (rw [zu_n w x (by omega)]; assumption) | (rw [zu_s]; exact zu_s _ _ _)
  · rw [zu_n w x (by omega), zu_n w x (by omega), zu_n w x (by omega), zu_n w x (by omega), zu_n w x (by omega)]
    refine ⟨?_, ?_, ?_, ?_, ?_⟩
    all_goals first | assumption | (show upd (c.2.1 12) P x p = _; rw [zu_n _ _ e]; assumption)
theorem RC_sA13 {c : bb_O} {w : Nat → Int32} (hc : RC c w) {P : Nat} (hP : P < 6) (x : Int32) : RC (bb_sA c 13 (upd (c.2.1 13) P x)) (upd w (13 + 5 * P) x) := by
  obtain ⟨⟨a0, a1, a2, a3, a4, a5, a6, a7, a8⟩, hp⟩ := hc
  refine ⟨⟨?_, ?_, ?_, ?_, ?_, ?_, ?_, ?_, ?_⟩, fun p h => ?_⟩
  all_goals try (rw [zu_n w x (by omega)]; assumption)
  obtain ⟨b0, b1, b2, b3, b4⟩ := hp p h
  by_cases e : p = P
  · subst e
    refine ⟨?_, ?_, ?_, ?_, ?_⟩
    all_goals first | (rw [zu_n w x (by omega)]; assumption) | (rw [zu_s]; exact zu_s _ _ _)
  · rw [zu_n w x (by omega), zu_n w x (by omega), zu_n w x (by omega), zu_n w x (by omega), zu_n w x (by omega)]
    refine ⟨?_, ?_, ?_, ?_, ?_⟩
    all_goals first | assumption | (show upd (c.2.1 13) P x p = _; rw [zu_n _ _ e]; assumption)
/-! ===== person ===== -/
def zcm (w : Nat → Int32) (P : Nat) (x1 x2 x3 x4 : Int32) : Nat → Int32 := upd (upd (upd (upd (upd (upd w (9 + 5 * P) x1) (10 + 5 * P) x2) (11 + 5 * P) x3) (12 + 5 * P) x4) (13 + 5 * P) 0) 2 (nI (P + 1))
theorem zc_enter {c : bb_O} {w : Nat → Int32} (hc : RC c w) {P : Nat} (hP : P < 6) (h2 : w 2 = nI P) (x1 x2 x3 x4 : Int32) : ∃ c', F_X0_enter_0 c x1 x2 x3 x4 = some (nI P, c') ∧ RC c' (zcm w P x1 x2 x3 x4) := by
  have hv : vp_in (nI P) 6 := vp_in_nI hP (by omega)
  have hc2 : c.1 2 = nI P := by rw [hc.1.2.2.1, h2]
  have h9 := RC_sf2 (RC_sA13 (RC_sA12 (RC_sA11 (RC_sA10 (RC_sA9 hc hP x1) hP x2) hP x3) hP x4) hP 0) (nI (P + 1))
  refine ⟨_, ?_, h9⟩
  unfold F_X0_enter_0 F_X0_enter_37 F_X0_enter_54 F_X0_enter_72
  rw [hc2, if_neg (nI_pos (by omega)), if_pos (show nI P < (6 : Int32) from (nI_ltI (a := P) (b := 6) (by omega) (by decide)).mpr hP), bb_g_pos hv, bb_g_pos hv, bb_g_pos hv, bb_g_pos hv, bb_g_pos hv, nI_clamp (by omega)]
  rw [← nI_1, ← hc2]
  rfl
theorem zm_comes {μ : bb_O} {w : Nat → Int32} (hw : μ.2.1 0 = w) {P : Nat} (hP : P < 6) (h2 : w 2 = nI P) (x1 x2 x3 x4 : Int32) : F_X5_comes_0 μ x1 x2 x3 x4 = some (upd μ.1 9 0, va_up μ.2.1 0 (zcm w P x1 x2 x3 x4), μ.2.2) := by
  have e9 : (9 : Int32) + 5 * nI P = nI (9 + 5 * P) := by rw [fa_lit 9, fa_lit 5, pk_mul, nI_add]
  have e1 : nI (9 + 5 * P) + 1 = nI (10 + 5 * P) := by rw [nI_1]; congr 1; omega
  have e2 : nI (9 + 5 * P) + 2 = nI (11 + 5 * P) := by rw [fa_lit 2, nI_add]; congr 1; omega
  have e3 : nI (9 + 5 * P) + 3 = nI (12 + 5 * P) := by rw [fa_lit 3, nI_add]; congr 1; omega
  have e4 : nI (9 + 5 * P) + 4 = nI (13 + 5 * P) := by rw [fa_lit 4, nI_add]; congr 1; omega
  unfold F_X5_comes_0 F_X5_comes_21 F_X5_comes_31 F_X5_comes_41 F_X5_comes_52 F_X5_comes_62 F_X5_comes_72 F_X5_comes_77
  rw [hw, h2, e9, e1, e2, e3, e4]
  rw [bb_g_pos (vp_in_nI (n := 9 + 5 * P) (by omega) (by omega)), bb_g_pos (vp_in_nI (n := 10 + 5 * P) (by omega) (by omega)), bb_g_pos (vp_in_nI (n := 11 + 5 * P) (by omega) (by omega)), bb_g_pos (vp_in_nI (n := 12 + 5 * P) (by omega) (by omega)), bb_g_pos (vp_in_nI (n := 13 + 5 * P) (by omega) (by omega))]
  rw [nI_clamp (n := 9 + 5 * P) (by omega), nI_clamp (n := 10 + 5 * P) (by omega), nI_clamp (n := 11 + 5 * P) (by omega), nI_clamp (n := 12 + 5 * P) (by omega), nI_clamp (n := 13 + 5 * P) (by omega)]
  unfold bb_sf bb_sA zcm
  simp only [bx_uu, va_up_self]
  rw [zu_n _ _ (show 2 ≠ 13 + 5 * P by omega), zu_n _ _ (show 2 ≠ 12 + 5 * P by omega), zu_n _ _ (show 2 ≠ 11 + 5 * P by omega), zu_n _ _ (show 2 ≠ 10 + 5 * P by omega), zu_n _ _ (show 2 ≠ 9 + 5 * P by omega), h2, nI_1]
theorem zcm_2 (w : Nat → Int32) (P : Nat) (x1 x2 x3 x4 : Int32) : zcm w P x1 x2 x3 x4 2 = nI (P + 1) := zu_s _ _ _
theorem zcm_o (w : Nat → Int32) (P : Nat) (x1 x2 x3 x4 : Int32) {i : Nat} (h : i ≠ 2) (h2 : i < 9 + 5 * P ∨ 14 + 5 * P ≤ i) : zcm w P x1 x2 x3 x4 i = w i := by
  unfold zcm
  rw [zu_n _ _ (by omega), zu_n _ _ (by omega), zu_n _ _ (by omega), zu_n _ _ (by omega), zu_n _ _ (by omega), zu_n _ _ (by omega)]
theorem zcm_n (w : Nat → Int32) (P : Nat) (x1 x2 x3 x4 : Int32) : zcm w P x1 x2 x3 x4 (9 + 5 * P) = x1 ∧ zcm w P x1 x2 x3 x4 (10 + 5 * P) = x2 ∧ zcm w P x1 x2 x3 x4 (11 + 5 * P) = x3 ∧ zcm w P x1 x2 x3 x4 (12 + 5 * P) = x4 ∧ zcm w P x1 x2 x3 x4 (13 + 5 * P) = 0 := by
  unfold zcm
  refine ⟨?_, ?_, ?_, ?_, ?_⟩
  · rw [zu_n _ _ (by omega), zu_n _ _ (by omega), zu_n _ _ (by omega), zu_n _ _ (by omega), zu_n _ _ (by omega), zu_s]
  · rw [zu_n _ _ (by omega), zu_n _ _ (by omega), zu_n _ _ (by omega), zu_n _ _ (by omega), zu_s]
  · rw [zu_n _ _ (by omega), zu_n _ _ (by omega), zu_n _ _ (by omega), zu_s]
  · rw [zu_n _ _ (by omega), zu_n _ _ (by omega), zu_s]
  · rw [zu_n _ _ (by omega), zu_s]
theorem zcm_ZI {w : Nat → Int32} (hi : ZI w) {P : Nat} (hP : P < 6) (h2 : gN w 2 = P) {a b c d : Nat} (ha : a < 5) (hb : b < gN w 0 * gN w 1) (hc : c < 10) (hd : d < 64) : ZI (zcm w P (nI a) (nI b) (nI c) (nI d)) := by
  have hm := hi.cells
  obtain ⟨n1, n2, n3, n4, n5⟩ := zcm_n w P (nI a) (nI b) (nI c) (nI d)
  generalize hv : zcm w P (nI a) (nI b) (nI c) (nI d) = v at n1 n2 n3 n4 n5 ⊢
  have ho : ∀ i, i ≠ 2 → (i < 9 + 5 * P ∨ 14 + 5 * P ≤ i) → v i = w i := fun i q1 q2 => by rw [← hv]; exact zcm_o w P _ _ _ _ q1 q2
  have hg : ∀ i, i ≠ 2 → (i < 9 + 5 * P ∨ 14 + 5 * P ≤ i) → gN v i = gN w i := fun i q1 q2 => by unfold gN; rw [ho i q1 q2]
  have hv2 : v 2 = nI (P + 1) := by rw [← hv]; exact zcm_2 w P _ _ _ _
  have g2 : gN v 2 = P + 1 := by unfold gN; rw [hv2]; exact nI_clamp (by omega)
  obtain ⟨a0, a1, a2, a3, a4⟩ := hi
  refine ⟨?_, ?_, ?_, ?_, fun p hp => ?_⟩
  · rw [hg 0 (by omega) (by omega), ho 0 (by omega) (by omega)]; exact a0
  · rw [hg 1 (by omega) (by omega), ho 1 (by omega) (by omega)]; exact a1
  · rw [g2, hv2]; exact ⟨rfl, by omega⟩
  · rw [hg 3 (by omega) (by omega), ho 3 (by omega) (by omega), hg 0 (by omega) (by omega), hg 1 (by omega) (by omega)]; exact a3
  · rw [g2] at hp
    rw [hg 0 (by omega) (by omega), hg 1 (by omega) (by omega)]
    by_cases e : p = P
    · subst e
      have gx : ∀ i k, v i = nI k → k < 2 ^ 31 → gN v i = k := fun i k q q2 => by unfold gN; rw [q]; exact nI_clamp q2
      rw [gx _ _ n1 (by omega), gx _ _ n2 (by omega), gx _ _ n3 (by omega), gx _ _ n4 (by omega), gx _ 0 n5 (by omega)]
      exact ⟨⟨n1, ha⟩, ⟨n2, hb⟩, ⟨n3, hc⟩, ⟨n4, hd⟩, ⟨n5, by omega⟩⟩
    · have := a4 p (by omega)
      rw [hg (9 + 5 * p) (by omega) (by omega), ho (9 + 5 * p) (by omega) (by omega), hg (10 + 5 * p) (by omega) (by omega), ho (10 + 5 * p) (by omega) (by omega), hg (11 + 5 * p) (by omega) (by omega), ho (11 + 5 * p) (by omega) (by omega), hg (12 + 5 * p) (by omega) (by omega), ho (12 + 5 * p) (by omega) (by omega), hg (13 + 5 * p) (by omega) (by omega), ho (13 + 5 * p) (by omega) (by omega)]
      exact this
theorem zcells {σ : bb_H} {μ : bb_O} (h : ZR σ μ) : F_X0_cells_0 (σ 0) = some (nI (gN (μ.2.1 0) 0 * gN (μ.2.1 0) 1)) ∧ F_X5_cells_0 μ = some (nI (gN (μ.2.1 0) 0 * gN (μ.2.1 0) 1)) := by
  obtain ⟨hc, hi, -⟩ := h.1
  unfold F_X0_cells_0 F_X5_cells_0
  rw [hc.1.1, hc.1.2.1, hi.1.1, hi.2.1.1, pk_mul]
  exact ⟨rfl, rfl⟩
theorem q_person {σ : bb_H} {μ : bb_O} (h : ZR σ μ) (x1 x2 x3 x4 : Int32) : ZO (F_X4_person_0 σ x1 x2 x3 x4) (F_X5_person_0 μ x1 x2 x3 x4) := by
  obtain ⟨hc, hi, hpast⟩ := h.1
  have hm := hi.cells
  have hp6 := hi.2.2.1.2
  obtain ⟨k1, k2⟩ := zcells h
  unfold F_X4_person_0 F_X5_person_0 F_X4_person_47 F_X5_person_53 F_X5_person_78
  have hcl : nI (gN (μ.2.1 0) 0 * gN (μ.2.1 0) 1) - 1 = nI (gN (μ.2.1 0) 0 * gN (μ.2.1 0) 1 - 1) := by
    rw [show (1 : Int32) = nI 1 from rfl]
    exact zs_le (Nat.mul_pos (by have := hi.1.2.1; omega) (by have := hi.2.1.2.1; omega))
  rcases zgd x1 0 4 (l := 0) (h := 4) (by decide) (by decide) with ⟨h1, e1, e2⟩ | ⟨h1, e1, e2⟩
  · rcases zgd x2 0 (nI (gN (μ.2.1 0) 0 * gN (μ.2.1 0) 1 - 1)) (l := 0) (h := (nI (gN (μ.2.1 0) 0 * gN (μ.2.1 0) 1 - 1)).toInt64) (by decide) rfl with ⟨h2, e3, e4⟩ | ⟨h2, e3, e4⟩
    · rcases zgd x3 0 9 (l := 0) (h := 9) (by decide) (by decide) with ⟨h3, e5, e6⟩ | ⟨h3, e5, e6⟩
      · rcases zgd x4 0 63 (l := 0) (h := 63) (by decide) (by decide) with ⟨h4, e7, e8⟩ | ⟨h4, e7, e8⟩
        · simp only [k1, k2, hcl, e1, e2, e3, e4, e5, e6, e7, e8, Option.bind_some, z10, ↓reduceIte]
          obtain ⟨a, -, a2, rfl⟩ := zrg (lo := 0) (hi := 4) (by decide) (by decide) h1
          obtain ⟨b, -, b2, rfl⟩ := zrg (lo := 0) (by decide) (by omega) h2
          obtain ⟨c, -, c2, rfl⟩ := zrg (lo := 0) (hi := 9) (by decide) (by decide) h3
          obtain ⟨d, -, d2, rfl⟩ := zrg (lo := 0) (hi := 63) (by decide) (by decide) h4
          have hb : b < gN (μ.2.1 0) 0 * gN (μ.2.1 0) 1 := by
            have : 0 < gN (μ.2.1 0) 0 * gN (μ.2.1 0) 1 := Nat.mul_pos (by have := hi.1.2.1; omega) (by have := hi.2.1.2.1; omega)
            omega
          rw [hc.1.2.2.1, hi.2.2.1.1]
          by_cases q : gN (μ.2.1 0) 2 < 6
          · rw [if_pos (show nI (gN (μ.2.1 0) 2) < (6 : Int32) from (nI_ltI (b := 6) (by omega) (by decide)).mpr q), if_neg (show ¬ nI (gN (μ.2.1 0) 2) = (6 : Int32) from fun z => absurd ((nI_eq (b := 6) (by omega) (by decide)).mp z) (by omega))]
            obtain ⟨c', f1, hc'⟩ := zc_enter hc q hi.2.2.1.1 (nI a) (nI b) (nI c) (nI d)
            rw [show F_X1_forget_0 (σ 1) = some (bb_sf (σ 1) 2 0) from rfl, Option.bind_some]
            rw [show (va_up σ 1 (bb_sf (σ 1) 2 0)) 0 = σ 0 from rfl, f1, Option.bind_some, zm_comes rfl q hi.2.2.1.1, Option.bind_some]
            refine ⟨nI (gN (μ.2.1 0) 2), va_up (va_up σ 1 (bb_sf (σ 1) 2 0)) 0 c', (upd μ.1 9 0, va_up μ.2.1 0 (zcm (μ.2.1 0) (gN (μ.2.1 0) 2) (nI a) (nI b) (nI c) (nI d)), μ.2.2), rfl, ?_, ⟨⟨hc', zcm_ZI hi q rfl (by omega) hb (by omega) (by omega), ZP_0 hpast _ _⟩, h.2.1, h.2.2.1, h.2.2.2⟩⟩
            show some (zcm (μ.2.1 0) (gN (μ.2.1 0) 2) (nI a) (nI b) (nI c) (nI d) 2 - 1, _) = _
            rw [zcm_2, show nI (gN (μ.2.1 0) 2 + 1) - 1 = nI (gN (μ.2.1 0) 2) from nI_pred _]
          · rw [if_neg (show ¬ nI (gN (μ.2.1 0) 2) < (6 : Int32) from fun z => q ((nI_ltI (b := 6) (by omega) (by decide)).mp z)), if_pos (show nI (gN (μ.2.1 0) 2) = (6 : Int32) by rw [show gN (μ.2.1 0) 2 = 6 by omega]; rfl)]
            exact ZO.one h _
        · simp only [k1, k2, hcl, e1, e2, e3, e4, e5, e6, e7, e8, Option.bind_some, z10, ↓reduceIte]
          exact ZO.one h _
      · simp only [k1, k2, hcl, e1, e2, e3, e4, e5, e6, Option.bind_some, z10, ↓reduceIte]
        exact ZO.one h _
    · simp only [k1, k2, hcl, e1, e2, e3, e4, Option.bind_some, z10, ↓reduceIte]
      exact ZO.one h _
  · simp only [e1, e2, Option.bind_some, z10, ↓reduceIte]
    exact ZO.one h _
/-! ===== of ===== -/
theorem q_of {σ : bb_H} {μ : bb_O} (h : ZR σ μ) (x y : Int32) : ∃ r, F_X4_of_0 σ x y = some r ∧ F_X5_of_0 μ x y = some r := by
  obtain ⟨hc, hi, -⟩ := h.1
  have hp6 := hi.2.2.1.2
  unfold F_X4_of_0 F_X5_of_0 F_X4_of_126 F_X5_of_20 F_X5_of_65
  rcases zperson h x with ⟨p, hp, rfl, e1, e2⟩ | ⟨e1, e2⟩
  · have hv : vp_in (nI p) 6 := vp_in_nI (by omega) (by omega)
    have b := hc.2 p (by omega)
    have ht : ∀ j, j < 5 → F_X5_told_0 μ (nI p) (nI j) = some (μ.2.1 0 (9 + 5 * p + j)) := fun j hj => zm_told rfl (by omega) hj
    have hx := zx64 (hi.2.2.2.2 p hp).2.2.2.1.2 (hi.2.2.2.2 p hp).2.2.2.2.2
    simp only [e1, e2, Option.bind_some, z10, ↓reduceIte, bb_g_pos hv, nI_clamp (show p < 2 ^ 31 by omega), zc_isFree hc (show p < 32 by omega), zm_isFree (μ := μ) rfl (show p < 32 by omega), zc_far hc hi hp, zm_far (μ := μ) rfl hi hp, zc_loud hc hi hp, zm_loud (μ := μ) rfl hi hp, zc_feel hc hi hp, zc_named hc hi hx (show 0 < gN (μ.2.1 0) 2 by omega)]
    rw [zin y 0 8 (l := 0) (h := 8) (by decide) (by decide), Option.bind_some]
    by_cases q : (0 : Int32) ≤ y ∧ y ≤ 8
    · rw [if_pos q, if_neg z10]
      obtain ⟨k, -, hk, rfl⟩ := zrg (lo := 0) (hi := 8) (by decide) (by decide) q
      have h4 : F_X5_told_0 μ (nI p) 4 = some (nI (gN (μ.2.1 0) (13 + 5 * p))) := by rw [show (4 : Int32) = nI 4 from rfl, ht 4 (by omega), show 9 + 5 * p + 4 = 13 + 5 * p by omega, (hi.2.2.2.2 p hp).2.2.2.2.1]
      rw [h4, Option.bind_some, zm_named rfl hi hp (hi.2.2.2.2 p hp).2.2.2.2.2, Option.bind_some]
      match k, hk with
      | 0, _ => exact ⟨_, rfl, by rw [ht 0 (by omega), b.1]; rfl⟩
      | 1, _ => exact ⟨_, rfl, by rw [ht 1 (by omega), b.2.1, show 10 + 5 * p = 9 + 5 * p + 1 by omega]; rfl⟩
      | 2, _ => exact ⟨_, rfl, by rw [ht 2 (by omega), b.2.2.1, show 11 + 5 * p = 9 + 5 * p + 2 by omega]; rfl⟩
      | 3, _ => exact ⟨_, rfl, by rw [ht 3 (by omega), b.2.2.2.1, show 12 + 5 * p = 9 + 5 * p + 3 by omega]; rfl⟩
      | 4, _ => exact ⟨_, rfl, by rw [ht 4 (by omega), b.2.2.2.2, show 13 + 5 * p = 9 + 5 * p + 4 by omega]; rfl⟩
      | 5, _ =>
        refine ⟨if bt (μ.2.1 0 5) p = false then 0 else 1, ?_, ?_⟩
        · by_cases hb : bt (μ.2.1 0 5) p = false
          · simp only [hb]; rfl
          · simp only [hb]; rfl
        · by_cases hb : bt (μ.2.1 0 5) p = false
          · simp only [hb]; rfl
          · simp only [hb]; rfl
      | 6, _ => exact ⟨nI (zfar (μ.2.1 0) p), rfl, by by_cases hb : bt (μ.2.1 0 5) p = false <;> (simp only [hb]; rfl)⟩
      | 7, _ => exact ⟨nI (zloud (μ.2.1 0) p), rfl, by by_cases hb : bt (μ.2.1 0 5) p = false <;> (simp only [hb]; rfl)⟩
      | 8, _ => exact ⟨_, rfl, by by_cases hb : bt (μ.2.1 0 5) p = false <;> (simp only [hb]; rfl)⟩
    · rw [if_neg q, if_pos rfl]
      have n0 : ¬ y = 0 := fun z => q (by rw [z]; decide)
      have n1 : ¬ y = 1 := fun z => q (by rw [z]; decide)
      have n2 : ¬ y = 2 := fun z => q (by rw [z]; decide)
      have n3 : ¬ y = 3 := fun z => q (by rw [z]; decide)
      have n4 : ¬ y = 4 := fun z => q (by rw [z]; decide)
      have n5 : ¬ y = 5 := fun z => q (by rw [z]; decide)
      have n6 : ¬ y = 6 := fun z => q (by rw [z]; decide)
      have n7 : ¬ y = 7 := fun z => q (by rw [z]; decide)
      have n8 : ¬ y = 8 := fun z => q (by rw [z]; decide)
      rw [if_neg n0, if_neg n1, if_neg n2, if_neg n3, if_neg n4, if_neg n5, if_neg n6, if_neg n7, if_neg n8]
      exact ⟨_, rfl, rfl⟩
  · simp only [e1, e2, Option.bind_some, z10, ↓reduceIte]
    exact ⟨_, rfl, rfl⟩
/-! ===== count ===== -/
theorem q_count {σ : bb_H} {μ : bb_O} (h : ZR σ μ) (y : Int32) : ∃ r, F_X4_count_0 σ y = some r ∧ F_X5_count_0 μ y = some r := by
  obtain ⟨hc, hi, k, q9, hk, hq9, f1, f2, -⟩ := h.1
  unfold F_X4_count_0 F_X5_count_0 F_X5_count_49
  rw [zc_fol hc hi, Option.bind_some, zm_fol rfl hi, Option.bind_some, zin y 0 7 (l := 0) (h := 7) (by decide) (by decide), Option.bind_some]
  by_cases q : (0 : Int32) ≤ y ∧ y ≤ 7
  · rw [if_pos q, if_neg z10]
    obtain ⟨k, -, hk, rfl⟩ := zrg (lo := 0) (hi := 7) (by decide) (by decide) q
    rw [bb_g_pos (vp_in_nI (by omega) (by omega)), nI_clamp (by omega)]
    match k, hk with
    | 0, _ => exact ⟨_, rfl, by rw [hc.1.1]⟩
    | 1, _ => exact ⟨_, rfl, by rw [hc.1.2.1]⟩
    | 2, _ => exact ⟨_, rfl, by rw [hc.1.2.2.1]⟩
    | 3, _ => exact ⟨_, rfl, by rw [hc.1.2.2.2.1]⟩
    | 4, _ => exact ⟨_, rfl, by rw [hc.1.2.2.2.2.2.1]⟩
    | 5, _ => exact ⟨_, rfl, by rw [hc.1.2.2.2.2.1]⟩
    | 6, _ => exact ⟨_, rfl, by rw [hc.1.2.2.2.2.2.2.1]⟩
    | 7, _ => exact ⟨_, rfl, by rw [hc.1.2.2.2.2.2.2.2.1]⟩
  · rw [if_neg q, if_pos rfl]
    have n0 : ¬ y = 0 := fun z => q (by rw [z]; decide)
    have n1 : ¬ y = 1 := fun z => q (by rw [z]; decide)
    have n2 : ¬ y = 2 := fun z => q (by rw [z]; decide)
    have n3 : ¬ y = 3 := fun z => q (by rw [z]; decide)
    have n4 : ¬ y = 4 := fun z => q (by rw [z]; decide)
    have n5 : ¬ y = 5 := fun z => q (by rw [z]; decide)
    have n6 : ¬ y = 6 := fun z => q (by rw [z]; decide)
    have n7 : ¬ y = 7 := fun z => q (by rw [z]; decide)
    rw [if_neg n0, if_neg n1, if_neg n2, if_neg n3, if_neg n4, if_neg n5, if_neg n6, if_neg n7]
    by_cases e8 : y = 8
    · rw [if_pos e8, if_pos e8]; exact ⟨_, rfl, rfl⟩
    · rw [if_neg e8, if_neg e8]
      by_cases e9 : y = 9
      · rw [if_pos e9, if_pos e9]; exact ⟨_, rfl, by rw [f1, f2]⟩
      · rw [if_neg e9, if_neg e9]; exact ⟨_, rfl, rfl⟩
/-! ===== seed ===== -/
theorem ZP.w {a : bb_O} {u w w' : Nat → Int32} {n : Int32} (h : ZP a u n w) (e0 : gN w' 0 = gN w 0) (e1 : gN w' 1 = gN w 1) (e2 : gN w' 2 = gN w 2) : ZP a u n w' := by
  obtain ⟨k, q, h1, h2, h3, h4, h5, h6⟩ := h
  refine ⟨k, q, h1, h2, h3, h4, h5, fun j hj => ⟨(h6 j hj).1, ?_⟩⟩
  unfold ZV
  rw [e0, e1, e2]
  exact (h6 j hj).2
theorem q_seed {σ : bb_H} {μ : bb_O} (h : ZR σ μ) (x : Int32) : ZO (F_X4_seed_0 σ x) (F_X5_seed_0 μ x) := by
  obtain ⟨hc, hi, hp⟩ := h.1
  unfold F_X4_seed_0 F_X5_seed_0 F_X5_seed_22
  by_cases q : 0 ≤ x
  · rw [if_pos q, if_pos q]
    refine ⟨μ.2.1 0 8, va_up σ 0 (bb_sf (σ 0) 8 x), (μ.1, va_up μ.2.1 0 (upd (μ.2.1 0) 8 x), μ.2.2), by rw [hc.1.2.2.2.2.2.2.2.2], rfl, ⟨⟨RC_sf8 hc x, ?_, ?_⟩, h.2.1, h.2.2.1, h.2.2.2⟩⟩
    · exact ZI_of hi (fun i z => zu_n _ _ (by omega)) (show upd (μ.2.1 0) 8 x 3 = _ from hi.2.2.2.1.1) hi.2.2.2.1.2
    · exact hp.w (zg_n _ _ (by omega)) (zg_n _ _ (by omega)) (zg_n _ _ (by omega))
  · rw [if_neg q, if_neg q]
    exact ZO.one h _
