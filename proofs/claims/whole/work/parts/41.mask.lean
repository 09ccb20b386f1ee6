/-! ===== mask ===== -/
theorem q_masL {σ : bb_H} {μ : bb_O} (h : ZR σ μ) {p y : Nat} (hp : p < gN (μ.2.1 0) 2) (hy : y ≤ 1) : ∀ (m n k : Nat) (x3 x4 : Int32), ((x3 = 7 ∧ x4 = -4) ∨ ∃ a, a < 64 ∧ x3 = nI (zpc a) ∧ x4 = nI a) → k + m = 64 → m < n → ∃ r, F_X4_mask_29 σ n (nI p) (nI y) x3 x4 (nI k) = some r ∧ F_X5_mask_26 μ n (nI p) (nI y) x4 (nI k) = some r := by
  obtain ⟨hc, hi, -⟩ := h.1
  have hp6 := hi.2.2.1.2
  have b := hi.2.2.2.2 p hp
  intro m
  induction m with
  | zero =>
    intro n k x3 x4 hx h1 h2
    obtain ⟨n, rfl⟩ : ∃ m, n = m + 1 := ⟨n - 1, by omega⟩
    obtain rfl : k = 64 := by omega
    show ∃ r, G_X4_mask_29 σ (F_X4_mask_29 σ n) (nI p) (nI y) x3 x4 (nI 64) = some r ∧ G_X5_mask_26 μ (F_X5_mask_26 μ n) (nI p) (nI y) x4 (nI 64) = some r
    unfold G_X4_mask_29 G_X5_mask_26 F_X4_mask_99 F_X4_mask_101 F_X5_mask_105 F_X5_mask_113
    rw [if_pos (show (63 : Int32) < nI 64 by decide), if_pos (show (64 : Int32) ≤ nI 64 by decide)]
    rcases hx with ⟨rfl, rfl⟩ | ⟨a, ha, rfl, rfl⟩
    · match y, hy with
      | 0, _ => exact ⟨-4, rfl, rfl⟩
      | 1, _ => exact ⟨-4, rfl, rfl⟩
    · have ne := zne4 (show a < 2 ^ 31 by omega)
      rw [if_neg ne, if_neg ne, zm_many a ha, Option.bind_some]
      match y, hy with
      | 0, _ => exact ⟨nI (zpc a), rfl, rfl⟩
      | 1, _ => exact ⟨nI a, rfl, rfl⟩
  | succ m ih =>
    intro n k x3 x4 hx h1 h2
    obtain ⟨n, rfl⟩ : ∃ m, n = m + 1 := ⟨n - 1, by omega⟩
    have hx64 := zx64 b.2.2.2.1.2 b.2.2.2.2.2
    have hk64 : gN (μ.2.1 0) (13 + 5 * p) ^^^ k < 64 := zx64 b.2.2.2.2.2 (by omega)
    have n1 : (F_X0_feel_0 (σ 0) (nI p)) = some (nI (gN (μ.2.1 0) (12 + 5 * p) ^^^ gN (μ.2.1 0) (13 + 5 * p))) := zc_feel hc hi hp
    have n2 : F_X0_namedBy_0 (σ 0) (nI (gN (μ.2.1 0) (12 + 5 * p) ^^^ gN (μ.2.1 0) (13 + 5 * p)) ^^^ nI k) = some (nI (znamed (μ.2.1 0) (gN (μ.2.1 0) (12 + 5 * p) ^^^ (gN (μ.2.1 0) (13 + 5 * p) ^^^ k)))) := by
      rw [fb_xorI, Nat.xor_assoc]
      exact zc_named hc hi (zx64 b.2.2.2.1.2 hk64) (by omega)
    have n3 : F_X5_told_0 μ (nI p) 4 = some (nI (gN (μ.2.1 0) (13 + 5 * p))) := by
      rw [show F_X5_told_0 μ (nI p) 4 = some (μ.2.1 0 (9 + 5 * p + 4)) from zm_told (j := 4) rfl (by omega) (by omega), show 9 + 5 * p + 4 = 13 + 5 * p by omega]
      exact congrArg some b.2.2.2.2.1
    have n4 : F_X5_named_0 μ (nI p) (nI (gN (μ.2.1 0) (13 + 5 * p)) ^^^ nI k) = some (nI (znamed (μ.2.1 0) (gN (μ.2.1 0) (12 + 5 * p) ^^^ (gN (μ.2.1 0) (13 + 5 * p) ^^^ k)))) := by
      rw [fb_xorI]
      exact zm_named rfl hi hp hk64
    generalize znamed (μ.2.1 0) (gN (μ.2.1 0) (12 + 5 * p) ^^^ (gN (μ.2.1 0) (13 + 5 * p) ^^^ k)) = q at n2 n4
    show ∃ r, G_X4_mask_29 σ (F_X4_mask_29 σ n) (nI p) (nI y) x3 x4 (nI k) = some r ∧ G_X5_mask_26 μ (F_X5_mask_26 μ n) (nI p) (nI y) x4 (nI k) = some r
    unfold G_X4_mask_29 G_X5_mask_26 F_X4_mask_78 F_X5_mask_51 F_X5_mask_73 F_X5_mask_74 F_X5_mask_87
    rw [if_neg (show ¬ (63 : Int32) < nI k from fun z => absurd ((nI_ltI (a := 63) (b := k) (by decide) (by omega)).mp z) (by omega)), if_neg (show ¬ (64 : Int32) ≤ nI k from fun z => absurd ((nI_leI (a := 64) (b := k) (by decide) (by omega)).mp z) (by omega))]
    have hz := zpc_le k
    simp only [zc_bc k (by omega), zm_many k (by omega), n1, n2, n3, n4, Option.bind_some, nI_1, z10, ↓reduceIte]
    rcases hx with ⟨rfl, rfl⟩ | ⟨a, ha, rfl, rfl⟩
    · rw [if_neg (show ¬ (7 : Int32) ≤ nI (zpc k) from fun z => absurd ((nI_leI (a := 7) (by decide) (by omega)).mp z) (by omega)), if_pos rfl]
      by_cases e : nI q = nI p
      · rw [if_pos e, if_pos e]
        exact ih n (k + 1) _ _ (Or.inl ⟨rfl, rfl⟩) (by omega) (by omega)
      · rw [if_neg e, if_neg e]
        exact ih n (k + 1) _ _ (Or.inr ⟨k, by omega, rfl, rfl⟩) (by omega) (by omega)
    · rw [if_neg (zne4 (show a < 2 ^ 31 by omega)), zm_many a ha, Option.bind_some]
      by_cases e0 : nI (zpc a) ≤ nI (zpc k)
      · rw [if_pos e0, if_pos e0]
        exact ih n (k + 1) _ _ (Or.inr ⟨a, ha, rfl, rfl⟩) (by omega) (by omega)
      · rw [if_neg e0, if_neg e0]
        by_cases e : nI q = nI p
        · rw [if_pos e, if_pos e]
          exact ih n (k + 1) _ _ (Or.inr ⟨a, ha, rfl, rfl⟩) (by omega) (by omega)
        · rw [if_neg e, if_neg e]
          exact ih n (k + 1) _ _ (Or.inr ⟨k, by omega, rfl, rfl⟩) (by omega) (by omega)
theorem q_mask {σ : bb_H} {μ : bb_O} (h : ZR σ μ) (x y : Int32) : ∃ r, F_X4_mask_0 σ x y = some r ∧ F_X5_mask_0 μ x y = some r := by
  unfold F_X4_mask_0 F_X5_mask_0 F_X4_mask_17 F_X5_mask_18
  rcases zperson h x with ⟨p, hpp, rfl, e1, e2⟩ | ⟨e1, e2⟩
  · rcases zgd y 0 1 (l := 0) (h := 1) (by decide) (by decide) with ⟨h1, e3, e4⟩ | ⟨h1, e3, e4⟩
    · simp only [e1, e2, e3, e4, Option.bind_some, z10, ↓reduceIte]
      obtain ⟨d, -, hd, rfl⟩ := zrg (lo := 0) (hi := 1) (by decide) (by decide) h1
      exact q_masL h hpp hd 64 bb_N 0 7 (-4) (Or.inl ⟨rfl, rfl⟩) (by omega) (by decide)
    · simp only [e1, e2, e3, e4, Option.bind_some, z10, ↓reduceIte]
      exact ⟨_, rfl, rfl⟩
  · simp only [e1, e2, Option.bind_some, z10, ↓reduceIte]
    exact ⟨_, rfl, rfl⟩
/-! ===== alike ===== -/
theorem q_aliJ {σ : bb_H} {μ : bb_O} (h : ZR σ μ) {i : Nat} (hii : i < gN (μ.2.1 0) 2) (x y : Int32) (k30 k33 : Int32 → Int32 → Int32 → Int32 → Int32 → Option Int32) (hk : ∀ a b, ∃ r, k30 x y a b (nI (i + 1)) = some r ∧ k33 x y a b (nI (i + 1)) = some r) : ∀ (m n j : Nat) (a b : Int32), j + m = gN (μ.2.1 0) 2 → m < n → ∃ r, F_X4_alike_48 σ k30 n x y a b (nI i) (nI j) = some r ∧ F_X5_alike_50 μ k33 n x y a b (nI i) (nI j) = some r := by
  obtain ⟨hc, hi, -⟩ := h.1
  have hp6 := hi.2.2.1.2
  have c2 : (σ 0).1 2 = nI (gN (μ.2.1 0) 2) := hc.1.2.2.1.trans hi.2.2.1.1
  intro m
  induction m with
  | zero =>
    intro n j a b h1 h2
    obtain ⟨n, rfl⟩ : ∃ m, n = m + 1 := ⟨n - 1, by omega⟩
    show ∃ r, G_X4_alike_48 σ k30 (F_X4_alike_48 σ k30 n) x y a b (nI i) (nI j) = some r ∧ G_X5_alike_50 μ k33 (F_X5_alike_50 μ k33 n) x y a b (nI i) (nI j) = some r
    unfold G_X4_alike_48 G_X5_alike_50
    rw [c2, hi.2.2.1.1, if_pos (nI_le (by omega) (by omega)), if_pos (nI_le (by omega) (by omega)), nI_1]
    exact hk a b
  | succ m ih =>
    intro n j a b h1 h2
    obtain ⟨n, rfl⟩ : ∃ m, n = m + 1 := ⟨n - 1, by omega⟩
    have bi := (hi.2.2.2.2 i hii).2.2.2.1
    have bj := (hi.2.2.2.2 j (by omega)).2.2.2.1
    have ti : F_X5_told_0 μ (nI i) 3 = some (nI (gN (μ.2.1 0) (12 + 5 * i))) := by
      rw [show F_X5_told_0 μ (nI i) 3 = some (μ.2.1 0 (9 + 5 * i + 3)) from zm_told (j := 3) rfl (by omega) (by omega), show 9 + 5 * i + 3 = 12 + 5 * i by omega]
      exact congrArg some bi.1
    have tj : F_X5_told_0 μ (nI j) 3 = some (nI (gN (μ.2.1 0) (12 + 5 * j))) := by
      rw [show F_X5_told_0 μ (nI j) 3 = some (μ.2.1 0 (9 + 5 * j + 3)) from zm_told (j := 3) rfl (by omega) (by omega), show 9 + 5 * j + 3 = 12 + 5 * j by omega]
      exact congrArg some bj.1
    have ci : (σ 0).2.1 12 i = nI (gN (μ.2.1 0) (12 + 5 * i)) := (hc.2 i (by omega)).2.2.2.1.trans bi.1
    have cj : (σ 0).2.1 12 j = nI (gN (μ.2.1 0) (12 + 5 * j)) := (hc.2 j (by omega)).2.2.2.1.trans bj.1
    have hn : ¬ nI (gN (μ.2.1 0) 2) ≤ nI j := fun z => absurd ((nI_leI (by omega) (by omega)).mp z) (by omega)
    show ∃ r, G_X4_alike_48 σ k30 (F_X4_alike_48 σ k30 n) x y a b (nI i) (nI j) = some r ∧ G_X5_alike_50 μ k33 (F_X5_alike_50 μ k33 n) x y a b (nI i) (nI j) = some r
    unfold G_X4_alike_48 G_X5_alike_50 F_X4_alike_105 F_X4_alike_110 F_X5_alike_88 F_X5_alike_110 F_X5_alike_112 F_X5_alike_125
    rw [c2, hi.2.2.1.1, if_neg hn, if_neg hn, bb_g_pos (vp_in_nI (by omega) (by omega)), bb_g_pos (vp_in_nI (by omega) (by omega)), nI_clamp (n := i) (by omega), nI_clamp (n := j) (by omega), ci, cj, fb_xorI, zc_bc _ (zx64 bi.2 bj.2), Option.bind_some, ti, Option.bind_some, tj, Option.bind_some, fb_xorI, zm_many _ (zx64 bi.2 bj.2), Option.bind_some]
    generalize nI (zpc (gN (μ.2.1 0) (12 + 5 * i) ^^^ gN (μ.2.1 0) (12 + 5 * j))) = q
    by_cases e : x < q
    · simp only [e, ↓reduceIte, nI_1, Int32.add_zero]
      exact ih n (j + 1) a b (by omega) (by omega)
    · by_cases e0 : a = 0
      · simp only [e, e0, ↓reduceIte, nI_1, z10]
        exact ih n (j + 1) _ _ (by omega) (by omega)
      · simp only [e, e0, ↓reduceIte, nI_1, z10]
        exact ih n (j + 1) _ _ (by omega) (by omega)
theorem q_aliI {σ : bb_H} {μ : bb_O} (h : ZR σ μ) (x y : Int32) : ∀ (m n i : Nat) (a b : Int32), i + m = gN (μ.2.1 0) 2 → m < n → ∃ r, F_X4_alike_30 σ n x y a b (nI i) = some r ∧ F_X5_alike_33 μ n x y a b (nI i) = some r := by
  obtain ⟨hc, hi, -⟩ := h.1
  have hp6 := hi.2.2.1.2
  have c2 : (σ 0).1 2 = nI (gN (μ.2.1 0) 2) := hc.1.2.2.1.trans hi.2.2.1.1
  intro m
  induction m with
  | zero =>
    intro n i a b h1 h2
    obtain ⟨n, rfl⟩ : ∃ m, n = m + 1 := ⟨n - 1, by omega⟩
    show ∃ r, G_X4_alike_30 σ (F_X4_alike_30 σ n) x y a b (nI i) = some r ∧ G_X5_alike_33 μ (F_X5_alike_33 μ n) x y a b (nI i) = some r
    unfold G_X4_alike_30 G_X5_alike_33 F_X4_alike_132 F_X5_alike_149
    rw [c2, hi.2.2.1.1, if_pos (nI_le (by omega) (by omega)), if_pos (nI_le (by omega) (by omega))]
    by_cases e : y = 0
    · rw [if_pos e]
      exact ⟨_, rfl, rfl⟩
    · rw [if_neg e]
      exact ⟨_, rfl, rfl⟩
  | succ m ih =>
    intro n i a b h1 h2
    obtain ⟨n, rfl⟩ : ∃ m, n = m + 1 := ⟨n - 1, by omega⟩
    have hn : ¬ nI (gN (μ.2.1 0) 2) ≤ nI i := fun z => absurd ((nI_leI (by omega) (by omega)).mp z) (by omega)
    show ∃ r, G_X4_alike_30 σ (F_X4_alike_30 σ n) x y a b (nI i) = some r ∧ G_X5_alike_33 μ (F_X5_alike_33 μ n) x y a b (nI i) = some r
    unfold G_X4_alike_30 G_X5_alike_33
    rw [c2, hi.2.2.1.1, if_neg hn, if_neg hn, nI_1]
    exact q_aliJ h (show i < gN (μ.2.1 0) 2 by omega) x y _ _ (fun a b => ih n (i + 1) a b (by omega) (by omega)) m bb_N (i + 1) a b (by omega) (show m < 200 by omega)
theorem q_alike {σ : bb_H} {μ : bb_O} (h : ZR σ μ) (x y : Int32) : ∃ r, F_X4_alike_0 σ x y = some r ∧ F_X5_alike_0 μ x y = some r := by
  have hp6 := h.1.2.1.2.2.1.2
  unfold F_X4_alike_0 F_X5_alike_0 F_X4_alike_19 F_X5_alike_22
  rcases zgd x 0 6 (l := 0) (h := 6) (by decide) (by decide) with ⟨h0, e1, e2⟩ | ⟨h0, e1, e2⟩
  · rcases zgd y 0 1 (l := 0) (h := 1) (by decide) (by decide) with ⟨h1, e3, e4⟩ | ⟨h1, e3, e4⟩
    · simp only [e1, e2, e3, e4, Option.bind_some, z10, ↓reduceIte]
      exact q_aliI h x y (gN (μ.2.1 0) 2) bb_N 0 0 (-4) (by omega) (show _ < 200 by omega)
    · simp only [e1, e2, e3, e4, Option.bind_some, z10, ↓reduceIte]
      exact ⟨_, rfl, rfl⟩
  · simp only [e1, e2, Option.bind_some, z10, ↓reduceIte]
    exact ⟨_, rfl, rfl⟩
