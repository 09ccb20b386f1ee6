theorem bz1 : bb_z 1 := Or.inr rfl
theorem bz0 : bb_z 0 := Or.inl rfl
/-! ===== the class's readings ===== -/
theorem zc_rowOf {c : bb_O} {C a : Nat} (hc : c.1 1 = nI C) (h2 : 2 ≤ C) (h6 : C ≤ 6) (ha : a < 2 ^ 31) : F_X0_rowOf_0 c (nI a) = some (nI (a / C)) := by
  unfold F_X0_rowOf_0 F_X0_rowOf_18
  rw [hc, if_pos (show (2 : Int32) ≤ nI C from (nI_leI (a := 2) (by decide) (by omega)).mpr h2), bb_g_pos (nI_ne0 (by omega) (by omega)), pk_div ha (by omega) (by omega)]
theorem zc_columnOf {c : bb_O} {C a : Nat} (hc : c.1 1 = nI C) (h2 : 2 ≤ C) (h6 : C ≤ 6) (ha : a < 2 ^ 31) : F_X0_columnOf_0 c (nI a) = some (nI (a % C)) := by
  unfold F_X0_columnOf_0 F_X0_columnOf_18
  rw [hc, if_pos (show (2 : Int32) ≤ nI C from (nI_leI (a := 2) (by decide) (by omega)).mpr h2), bb_g_pos (nI_ne0 (by omega) (by omega)), zmod ha (by omega) (by omega)]
theorem zabs {a b : Nat} (ha : a < 2 ^ 30) (hb : b < 2 ^ 30) : (if 0 ≤ nI a - nI b then nI a - nI b else 0 - (nI a - nI b)) = nI (zd a b) := by
  by_cases h : b ≤ a
  · rw [zs_le h, if_pos (nI_pos' (by omega)), zd, show b - a = 0 by omega, Nat.add_zero]
  · have e : nI a - nI b = 0 - nI (b - a) := by
      have := nI_add (b - a) a
      rw [show b - a + a = b by omega] at this
      rw [← this]
      simp only [Int32.sub_eq_add_neg, Int32.neg_add, Int32.zero_add]
      rw [Int32.add_comm (-nI (b - a)) (-nI a), ← Int32.add_assoc, Int32.add_right_neg, Int32.zero_add]
    rw [if_neg (fun q => by
      have hs := pk_sneg hb (show a < b by omega)
      exact absurd hs (Int32.not_lt.mpr q)), e, Int32.sub_eq_add_neg, Int32.sub_eq_add_neg, Int32.zero_add, Int32.zero_add, Int32.neg_neg, zd, show a - b = 0 by omega, Nat.zero_add]
theorem zc_far {c : bb_O} {w : Nat → Int32} (hc : RC c w) (hi : ZI w) {p : Nat} (hp : p < gN w 2) : F_X0_far_0 c (nI p) = some (nI (zfar w p)) := by
  have hm := hi.cells
  obtain ⟨h0, h1, h2, h3, h4⟩ := hi
  obtain ⟨-, ⟨hcl, hcl2⟩, -, -, -⟩ := h4 p hp
  have hc1 : c.1 1 = nI (gN w 1) := by rw [hc.1.2.1]; exact h1.1
  have hc3 : c.1 3 = nI (gN w 3) := by rw [hc.1.2.2.2.1]; exact h3.1
  have hcp : c.2.1 10 p = nI (gN w (10 + 5 * p)) := by rw [(hc.2 p (by omega)).2.1]; exact hcl
  unfold F_X0_far_0
  have hv : vp_in (nI p) 6 := vp_in_nI (by omega) (by omega)
  rw [bb_g_pos hv, nI_clamp (by omega), hcp, hc3, zc_rowOf hc1 h1.2.1 h1.2.2 (by omega), Option.bind_some, zc_rowOf hc1 h1.2.1 h1.2.2 (by omega), Option.bind_some, bb_g_pos hv, zc_columnOf hc1 h1.2.1 h1.2.2 (by omega), Option.bind_some, zc_columnOf hc1 h1.2.1 h1.2.2 (by omega), Option.bind_some]
  have d1 := Nat.div_le_self (gN w (10 + 5 * p)) (gN w 1)
  have d2 := Nat.div_le_self (gN w 3) (gN w 1)
  have d3 := Nat.mod_le (gN w (10 + 5 * p)) (gN w 1)
  have d4 := Nat.mod_le (gN w 3) (gN w 1)
  rw [zabs (by omega) (by omega), zabs (by omega) (by omega), nI_add]
  rfl
theorem zmax {a b : Nat} (ha : a < 2 ^ 30) (hb : b < 2 ^ 30) : (if (0 : Int32) < nI a - nI b then nI a - nI b else 0) = nI (a - b) := by
  by_cases h : b < a
  · rw [zs_le (by omega), if_pos (show (0 : Int32) < nI (a - b) from (nI_ltI (a := 0) (b := a - b) (by decide) (by omega)).mpr (by omega))]
  · by_cases e : a = b
    · subst e
      rw [Int32.sub_self, if_neg (by decide), Nat.sub_self]; rfl
    · rw [if_neg (fun q => by
        have hs := pk_sneg hb (show a < b by omega)
        exact absurd hs (Int32.not_lt.mpr (Int32.le_of_lt q))), show a - b = 0 by omega]; rfl
theorem zc_loud {c : bb_O} {w : Nat → Int32} (hc : RC c w) (hi : ZI w) {p : Nat} (hp : p < gN w 2) : F_X0_loud_0 c (nI p) = some (nI (zloud w p)) := by
  have hf := zfar_le hi hp
  have hfar := zc_far hc hi hp
  obtain ⟨h0, h1, h2, h3, h4⟩ := hi
  obtain ⟨⟨hk, hk2⟩, -, ⟨hn, hn2⟩, -, -⟩ := h4 p hp
  have hv : vp_in (nI p) 6 := vp_in_nI (by omega) (by omega)
  have hc11 : c.2.1 11 p = nI (gN w (11 + 5 * p)) := by rw [(hc.2 p (by omega)).2.2.1]; exact hn
  have hc9 : c.2.1 9 p = nI (gN w (9 + 5 * p)) := by rw [(hc.2 p (by omega)).1]; exact hk
  unfold F_X0_loud_0
  rw [hfar, Option.bind_some, bb_g_pos hv, nI_clamp (by omega), hc11, zmax (by omega) (by omega)]
  have hp9 : gN w (11 + 5 * p) - zfar w p < 10 := by omega
  unfold F_X0_loud_19 F_X0_loud_85 F_X0_loud_100 zloud zpl
  rw [bb_g_pos hv, nI_clamp (by omega), hc9, hc.1.2.2.2.2.2.1]
  generalize gN w (11 + 5 * p) - zfar w p = pl at hp9 ⊢
  have hdv : nI pl / 2 = nI (pl / 2) := pk_div (by omega) (by decide) (by decide)
  have had : nI pl + 4 = nI (pl + 4) := nI_add _ 4
  rw [hdv, had]
  have q1 : (nI (gN w (9 + 5 * p)) = 1) ↔ gN w (9 + 5 * p) = 1 := nI_eq (by omega) (by decide)
  have q2 : (nI (gN w (9 + 5 * p)) = 2) ↔ gN w (9 + 5 * p) = 2 := nI_eq (by omega) (by decide)
  have q3 : (nI (gN w (9 + 5 * p)) = 3) ↔ gN w (9 + 5 * p) = 3 := nI_eq (by omega) (by decide)
  have q5 : (nI (gN w (9 + 5 * p)) = 4) ↔ gN w (9 + 5 * p) = 4 := nI_eq (by omega) (by decide)
  have q4 : ((2 : Int32) < nI (zfar w p)) ↔ 2 < zfar w p := nI_ltI (by decide) (by omega)
  have hml : (2 : Int32) * nI (pl + 4) = nI (2 * (pl + 4)) := pk_mul 2 _
  simp only [q1, q2, q3, q4, q5, hml]
  generalize gN w (9 + 5 * p) = k at hk2 ⊢
  match k, hk2 with
  | 0, _ => rfl
  | 1, _ => rfl
  | 2, _ => rfl
  | 3, _ => simp; split <;> rfl
  | 4, _ =>
    simp
    by_cases h : zfar w p ≤ 2
    · rw [if_neg (by omega), if_pos h]
    · rw [if_pos (by omega), if_neg h]
theorem zloud_le {w : Nat → Int32} (hi : ZI w) {p : Nat} (hp : p < gN w 2) : zloud w p ≤ 26 := by
  obtain ⟨h0, h1, h2, h3, h4⟩ := hi
  obtain ⟨-, -, ⟨hn, hn2⟩, -, -⟩ := h4 p hp
  have : zpl w p ≤ 9 := by unfold zpl; omega
  unfold zloud
  split
  · omega
  split
  · omega
  split
  · omega
  split
  · split <;> omega
  split <;> omega
/-! ===== who is free ===== -/
theorem zc_isFree {c : bb_O} {w : Nat → Int32} (hc : RC c w) {p : Nat} (hp : p < 32) : F_X0_isFree_0 c (nI p) = some (if bt (w 5) p = false then 1 else 0) := by
  unfold F_X0_isFree_0 F_X0_isFree_16
  rw [hc.1.2.2.2.2.1]
  by_cases h : bt (w 5) p = false
  · rw [if_pos ((zb_bit (w 5) hp).mpr h), if_pos h, bb_g_pos bz1]
  · rw [if_neg (fun q => h ((zb_bit (w 5) hp).mp q)), if_neg h, bb_g_pos bz0]
theorem zm_isFree {μ : bb_O} {w : Nat → Int32} (hw : μ.2.1 0 = w) {p : Nat} (hp : p < 32) : F_X5_isFree_0 μ (nI p) = some (if bt (w 5) p = false then 1 else 0) := by
  unfold F_X5_isFree_0 F_X5_isFree_18
  rw [hw]
  by_cases h : bt (w 5) p = false
  · rw [if_pos ((zb_shr (w 5) hp).mpr h), if_pos h, bb_g_pos bz1]
  · rw [if_neg (fun q => h ((zb_shr (w 5) hp).mp q)), if_neg h, bb_g_pos bz0]
/-! ===== whom he follows ===== -/
def zfol (w : Nat → Int32) (quiet : Int32) : Nat → Nat → Int32 → Nat → Int32
  | 0, _, b, _ => b
  | r + 1, p, b, m => if bt (w 5) p = false ∧ bt quiet p = false ∧ m < zloud w p then zfol w quiet r (p + 1) (nI p) (zloud w p) else zfol w quiet r (p + 1) b m
theorem zc_folL {c : bb_O} {w : Nat → Int32} (hc : RC c w) (hi : ZI w) : ∀ (r n p : Nat) (b : Int32) (m : Nat), p + r = gN w 2 → r < n → m ≤ 26 → F_X0_followed_7 c n b (nI m) (nI p) = some (zfol w 0 r p b m) := by
  intro r
  induction r with
  | zero =>
    intro n p b m h1 h2 h3
    obtain ⟨n, rfl⟩ : ∃ k, n = k + 1 := ⟨n - 1, by omega⟩
    show G_X0_followed_7 c (F_X0_followed_7 c n) b (nI m) (nI p) = _
    unfold G_X0_followed_7
    have hp6 := hi.2.2.1.2
    rw [hc.1.2.2.1, hi.2.2.1.1, if_pos ((nI_leI (a := gN w 2) (b := p) (by omega) (by omega)).mpr (by omega))]
    rfl
  | succ r ih =>
    intro n p b m h1 h2 h3
    obtain ⟨n, rfl⟩ : ∃ k, n = k + 1 := ⟨n - 1, by omega⟩
    have hp6 := hi.2.2.1.2
    show G_X0_followed_7 c (F_X0_followed_7 c n) b (nI m) (nI p) = _
    unfold G_X0_followed_7 F_X0_followed_41
    have hl := zloud_le hi (p := p) (by omega)
    rw [hc.1.2.2.1, hi.2.2.1.1, if_neg (fun q => absurd ((nI_leI (by omega) (by omega)).mp q) (by omega)), zc_isFree hc (by omega), Option.bind_some]
    rw [show nI p + 1 = nI (p + 1) from nI_1 p]
    by_cases hf : bt (w 5) p = false
    · rw [if_pos hf, if_neg (by decide), zc_loud hc hi (by omega), Option.bind_some]
      by_cases hm : m < zloud w p
      · rw [if_neg (fun q => absurd ((nI_leI (by omega) (by omega)).mp q) (by omega)), ih n (p + 1) (nI p) (zloud w p) (by omega) (by omega) hl]
        rw [zfol, if_pos ⟨hf, b_0 p, hm⟩]
      · rw [if_pos ((nI_leI (by omega) (by omega)).mpr (by omega)), ih n (p + 1) b m (by omega) (by omega) h3]
        rw [zfol, if_neg (fun q => hm q.2.2)]
    · rw [if_neg hf, if_pos rfl, ih n (p + 1) b m (by omega) (by omega) h3]
      rw [zfol, if_neg (fun q => hf q.1)]
def zfoll (w : Nat → Int32) (quiet : Int32) : Int32 := zfol w quiet (gN w 2) 0 (-4) 0
theorem zc_fol {c : bb_O} {w : Nat → Int32} (hc : RC c w) (hi : ZI w) : F_X0_followed_0 c = some (zfoll w 0) := by
  have hp6 := hi.2.2.1.2
  exact zc_folL hc hi (gN w 2) bb_N 0 (-4) 0 (by omega) (by unfold bb_N; omega) (by omega)
theorem zm_folL {μ : bb_O} {w : Nat → Int32} (hw : μ.2.1 0 = w) (hi : ZI w) (x : Int32) : ∀ (r n p : Nat) (b : Int32) (m : Nat), p + r = gN w 2 → r < n → m ≤ 26 → F_X5_follows_8 μ n x b (nI m) (nI p) = some (zfol w x r p b m) := by
  intro r
  induction r with
  | zero =>
    intro n p b m h1 h2 h3
    obtain ⟨n, rfl⟩ : ∃ k, n = k + 1 := ⟨n - 1, by omega⟩
    show G_X5_follows_8 μ (F_X5_follows_8 μ n) x b (nI m) (nI p) = _
    unfold G_X5_follows_8
    have hp6 := hi.2.2.1.2
    rw [hw, hi.2.2.1.1, if_pos ((nI_leI (a := gN w 2) (b := p) (by omega) (by omega)).mpr (by omega))]
    rfl
  | succ r ih =>
    intro n p b m h1 h2 h3
    obtain ⟨n, rfl⟩ : ∃ k, n = k + 1 := ⟨n - 1, by omega⟩
    have hp6 := hi.2.2.1.2
    show G_X5_follows_8 μ (F_X5_follows_8 μ n) x b (nI m) (nI p) = _
    unfold G_X5_follows_8 F_X5_follows_51 F_X5_follows_52 F_X5_follows_65 F_X5_follows_81
    have hl := zloud_le hi (p := p) (by omega)
    rw [hw, hi.2.2.1.1, if_neg (fun q => absurd ((nI_leI (by omega) (by omega)).mp q) (by omega)), zm_isFree hw (by omega), Option.bind_some]
    rw [show nI p + 1 = nI (p + 1) from nI_1 p]
    by_cases hf : bt (w 5) p = false
    · rw [if_pos hf, if_neg (by decide)]
      by_cases hq : bt x p = false
      · rw [if_pos ((zb_shr x (by omega)).mpr hq), zm_loud hw hi (by omega), Option.bind_some]
        by_cases hm : m < zloud w p
        · rw [if_neg (fun q => absurd ((nI_leI (by omega) (by omega)).mp q) (by omega)), if_neg (by decide), if_neg (by decide), Option.bind_some, ih n (p + 1) (nI p) (zloud w p) (by omega) (by omega) hl]
          rw [zfol, if_pos ⟨hf, hq, hm⟩]
        · rw [if_pos ((nI_leI (by omega) (by omega)).mpr (by omega)), if_pos rfl, if_pos rfl, ih n (p + 1) b m (by omega) (by omega) h3]
          rw [zfol, if_neg (fun q => hm q.2.2)]
      · rw [if_neg (fun q => hq ((zb_shr x (by omega)).mp q)), if_pos rfl, if_pos rfl, ih n (p + 1) b m (by omega) (by omega) h3]
        rw [zfol, if_neg (fun q => hq q.2.1)]
    · rw [if_neg hf, if_pos rfl, if_pos rfl, if_pos rfl, ih n (p + 1) b m (by omega) (by omega) h3]
      rw [zfol, if_neg (fun q => hf q.1)]
theorem zm_fol {μ : bb_O} {w : Nat → Int32} (hw : μ.2.1 0 = w) (hi : ZI w) (x : Int32) : F_X5_follows_0 μ x = some (zfoll w x) := by
  have hp6 := hi.2.2.1.2
  exact zm_folL hw hi x (gN w 2) bb_N 0 (-4) 0 (by omega) (by unfold bb_N; omega) (by omega)
theorem zfol_is (w : Nat → Int32) (x : Int32) : ∀ (r p : Nat) (b : Int32) (m : Nat), (b = -4 ∨ ∃ j, j < p + r ∧ b = nI j) → zfol w x r p b m = -4 ∨ ∃ j, j < p + r ∧ zfol w x r p b m = nI j := by
  intro r
  induction r with
  | zero => intro p b m h; exact h
  | succ r ih =>
    intro p b m h
    rw [zfol]
    split
    · have := ih (p + 1) (nI p) (zloud w p) (Or.inr ⟨p, by omega, rfl⟩)
      rw [show p + 1 + r = p + (r + 1) by omega] at this
      exact this
    · have := ih (p + 1) b m (by rw [show p + 1 + r = p + (r + 1) by omega]; exact h)
      rw [show p + 1 + r = p + (r + 1) by omega] at this
      exact this
theorem zfoll_is (w : Nat → Int32) (x : Int32) : zfoll w x = -4 ∨ ∃ j, j < gN w 2 ∧ zfoll w x = nI j := by
  have := zfol_is w x (gN w 2) 0 (-4) 0 (Or.inl rfl)
  rwa [Nat.zero_add] at this
