/-! ===== the cell beside ===== -/
def zbes (R C K d : Nat) : Int32 := if d = 0 then (if K / C = 0 then -4 else nI (K - C)) else if d = 1 then (if R ≤ K / C + 1 then -4 else nI (K + C)) else if d = 2 then (if K % C = 0 then -4 else nI (K - 1)) else (if C ≤ K % C + 1 then -4 else nI (K + 1))
theorem zbes_is {R C K : Nat} (hC : 0 < C) (hK : K < R * C) (d : Nat) : zbes R C K d = -4 ∨ ∃ t, t < R * C ∧ zbes R C K d = nI t := by
  have h1 := Nat.div_add_mod K C
  have h2 := Nat.mod_lt K hC
  have h3 : K / C < R := Nat.div_lt_of_lt_mul (by rw [Nat.mul_comm]; exact hK)
  unfold zbes
  by_cases d0 : d = 0
  · rw [if_pos d0]
    by_cases e : K / C = 0
    · left; rw [if_pos e]
    · right; rw [if_neg e]; exact ⟨K - C, by omega, rfl⟩
  · rw [if_neg d0]
    by_cases d1 : d = 1
    · rw [if_pos d1]
      by_cases e : R ≤ K / C + 1
      · left; rw [if_pos e]
      · right
        rw [if_neg e]
        refine ⟨K + C, ?_, rfl⟩
        have q : (K / C + 1 + 1) * C ≤ R * C := Nat.mul_le_mul_right C (by omega)
        rw [Nat.add_mul, Nat.add_mul, Nat.one_mul, Nat.mul_comm (K / C) C] at q
        omega
    · rw [if_neg d1]
      by_cases d2 : d = 2
      · rw [if_pos d2]
        by_cases e : K % C = 0
        · left; rw [if_pos e]
        · right; rw [if_neg e]; exact ⟨K - 1, by omega, rfl⟩
      · rw [if_neg d2]
        by_cases e : C ≤ K % C + 1
        · left; rw [if_pos e]
        · right
          rw [if_neg e]
          refine ⟨K + 1, ?_, rfl⟩
          have q : (K / C + 1) * C ≤ R * C := Nat.mul_le_mul_right C (by omega)
          rw [Nat.add_mul, Nat.one_mul, Nat.mul_comm (K / C) C] at q
          omega
theorem zc_bes {c : bb_O} {w : Nat → Int32} (hc : RC c w) (hi : ZI w) {K d : Nat} (hK : K < gN w 0 * gN w 1) (hd : d < 4) : F_X0_beside_0 c (nI K) (nI d) = some (zbes (gN w 0) (gN w 1) K d) := by
  have hm := hi.cells
  obtain ⟨h0, h1, -, -, -⟩ := hi
  have c1 : c.1 1 = nI (gN w 1) := hc.1.2.1.trans h1.1
  have c0 : c.1 0 = nI (gN w 0) := hc.1.1.trans h0.1
  have hd1 := Nat.div_le_self K (gN w 1)
  have hd2 := Nat.mod_le K (gN w 1)
  have hdm := Nat.div_add_mod K (gN w 1)
  unfold F_X0_beside_0 F_X0_beside_51 F_X0_beside_77 F_X0_beside_94 F_X0_beside_117
  rw [zc_rowOf c1 h1.2.1 h1.2.2 (by omega), zc_columnOf c1 h1.2.1 h1.2.2 (by omega), Option.bind_some, Option.bind_some, Option.bind_some, Option.bind_some, c1, c0]
  rw [show (1 : Int32) = nI 1 from rfl, zs_le (show 1 ≤ gN w 0 by omega), zs_le (show 1 ≤ gN w 1 by omega)]
  unfold zbes
  generalize K / gN w 1 = qq at *
  generalize K % gN w 1 = rr at *
  match d, hd with
  | 0, _ =>
    rw [if_pos (show nI 0 = 0 from rfl), if_pos rfl]
    by_cases e : qq = 0
    · rw [if_pos e, if_pos (show nI (qq) ≤ 0 from (nI_leI (a := qq) (b := 0) (by omega) (by omega)).mpr (by omega))]
    · rw [if_neg e, if_neg (show ¬ nI (qq) ≤ 0 from fun z => e (by have := (nI_leI (a := qq) (b := 0) (by omega) (by omega)).mp z; omega)), zs_le ?_]
      have : gN w 1 * 1 ≤ gN w 1 * (qq) := Nat.mul_le_mul_left _ (by omega)
      omega
  | 1, _ =>
    rw [if_neg (show ¬ nI 1 = 0 by decide), if_pos rfl, if_neg (show ¬ (1 : Nat) = 0 by omega), if_pos rfl]
    by_cases e : gN w 0 ≤ qq + 1
    · rw [if_pos e, if_pos ((nI_leI (by omega) (by omega)).mpr (by omega))]
    · rw [if_neg e, if_neg (fun z => e (by have := (nI_leI (by omega) (by omega)).mp z; omega)), nI_add]
  | 2, _ =>
    rw [if_neg (show ¬ nI 2 = 0 by decide), if_neg (show ¬ nI 2 = nI 1 by decide), if_pos (show nI 2 = 2 from rfl), if_neg (show ¬ (2 : Nat) = 0 by omega), if_neg (show ¬ (2 : Nat) = 1 by omega), if_pos rfl]
    by_cases e : rr = 0
    · rw [if_pos e, if_pos (show nI (rr) ≤ 0 from (nI_leI (a := rr) (b := 0) (by omega) (by omega)).mpr (by omega))]
    · rw [if_neg e, if_neg (show ¬ nI (rr) ≤ 0 from fun z => e (by have := (nI_leI (a := rr) (b := 0) (by omega) (by omega)).mp z; omega)), zs_le (by omega)]
  | 3, _ =>
    rw [if_neg (show ¬ nI 3 = 0 by decide), if_neg (show ¬ nI 3 = nI 1 by decide), if_neg (show ¬ nI 3 = 2 by decide), if_pos (show nI 3 = 3 from rfl), if_neg (show ¬ (3 : Nat) = 0 by omega), if_neg (show ¬ (3 : Nat) = 1 by omega), if_neg (show ¬ (3 : Nat) = 2 by omega)]
    by_cases e : gN w 1 ≤ rr + 1
    · rw [if_pos e, if_pos ((nI_leI (by omega) (by omega)).mpr (by omega))]
    · rw [if_neg e, if_neg (fun z => e (by have := (nI_leI (by omega) (by omega)).mp z; omega)), nI_add]
theorem zm_b53 {μ : bb_O} {R C : Nat} (h0 : μ.2.1 0 0 = nI R) (hR : 2 ≤ R) (hR6 : R ≤ 6) (hC : 2 ≤ C) (hC6 : C ≤ 6) (x y0 y1 : Int32) : F_X5_beside_53 μ (nI C) x y0 y1 = some (if (0 ≤ x ∧ x ≤ nI (R - 1)) ∧ (0 ≤ y1 + y0 ∧ y1 + y0 ≤ nI (C - 1)) then x * nI C + (y1 + y0) else -4) := by
  unfold F_X5_beside_53 F_X5_beside_99 F_X5_beside_101
  rw [h0, show (1 : Int32) = nI 1 from rfl, zs_le (show 1 ≤ R by omega), zs_le (show 1 ≤ C by omega), zin x 0 (nI (R - 1)) (l := 0) (by decide) rfl, zin (y1 + y0) 0 (nI (C - 1)) (l := 0) (by decide) rfl, Option.bind_some, Option.bind_some]
  by_cases a : 0 ≤ x ∧ x ≤ nI (R - 1)
  · rw [if_pos a, if_neg z10]
    by_cases b : 0 ≤ y1 + y0 ∧ y1 + y0 ≤ nI (C - 1)
    · rw [if_pos b, if_neg z10, if_pos ⟨a, b⟩]
    · rw [if_neg b, if_pos rfl, if_neg (fun z => b z.2)]
  · rw [if_neg a, if_pos rfl, if_neg (fun z => a z.1)]
theorem zm_bes {μ : bb_O} {w : Nat → Int32} (hw : μ.2.1 0 = w) (hi : ZI w) {K d : Nat} (hK : K < gN w 0 * gN w 1) (hd : d < 4) : F_X5_beside_0 μ (nI K) (nI d) = some (zbes (gN w 0) (gN w 1) K d) := by
  have hm := hi.cells
  obtain ⟨h0, h1, -, -, -⟩ := hi
  have hd1 := Nat.div_le_self K (gN w 1)
  have hd2 := Nat.mod_le K (gN w 1)
  have hdm := Nat.div_add_mod K (gN w 1)
  have hml := Nat.mod_lt K (show 0 < gN w 1 by omega)
  have hdl : K / gN w 1 < gN w 0 := Nat.div_lt_of_lt_mul (by rw [Nat.mul_comm]; exact hK)
  have hz : ¬ nI (gN w 1) = 0 := nI_ne0 (by omega) (by omega)
  have m0 : μ.2.1 0 0 = nI (gN w 0) := by rw [hw]; exact h0.1
  unfold F_X5_beside_0 F_X5_beside_28
  rw [hw, h1.1, bb_g_pos hz, bb_g_pos hz, bb_g_pos hz, bb_g_pos hz, pk_div (by omega) (by omega) (by omega), zmod (by omega) (by omega) (by omega)]
  simp only [zm_b53 m0 h0.2.1 h0.2.2 h1.2.1 h1.2.2]
  have col0 : (0 : Int32) ≤ nI (K % gN w 1) ∧ nI (K % gN w 1) ≤ nI (gN w 1 - 1) := ⟨nI_pos' (by omega), nI_le (by omega) (by omega)⟩
  have row0 : (0 : Int32) ≤ nI (K / gN w 1) ∧ nI (K / gN w 1) ≤ nI (gN w 0 - 1) := ⟨nI_pos' (by omega), nI_le (by omega) (by omega)⟩
  unfold zbes
  generalize K / gN w 1 = qq at *
  generalize K % gN w 1 = rr at *
  match d, hd with
  | 0, _ =>
    rw [if_pos (show nI 0 = 0 from rfl), if_neg (show ¬ nI 0 = 2 by decide), if_neg (show ¬ nI 0 = 3 by decide), if_pos rfl, Int32.add_zero]
    by_cases e : qq = 0
    · rw [if_pos e, e, if_neg (fun z => absurd z.1.1 (by decide))]
    · rw [if_neg e, zm1 (by omega), if_pos ⟨⟨nI_pos' (by omega), nI_le (by omega) (by omega)⟩, col0⟩, pk_mul, nI_add]
      congr 2
      obtain ⟨q, hq⟩ : ∃ q, qq = q + 1 := ⟨qq - 1, by omega⟩
      rw [hq, Nat.mul_add, Nat.mul_one] at hdm
      rw [hq, Nat.add_sub_cancel, Nat.mul_comm]
      omega
  | 1, _ =>
    rw [if_neg (show ¬ nI 1 = 0 by decide), if_pos (show nI 1 = 1 from rfl), if_neg (show ¬ nI 1 = 2 by decide), if_neg (show ¬ nI 1 = 3 by decide), if_neg (show ¬ (1 : Nat) = 0 by omega), if_pos rfl, Int32.add_zero, nI_1]
    by_cases e : gN w 0 ≤ qq + 1
    · rw [if_pos e, if_neg (fun z => absurd ((nI_leI (by omega) (by omega)).mp z.1.2) (by omega))]
    · rw [if_neg e, if_pos ⟨⟨nI_pos' (by omega), nI_le (by omega) (by omega)⟩, col0⟩, pk_mul, nI_add, Nat.add_mul, Nat.one_mul, Nat.mul_comm (qq)]
      congr 2
      omega
  | 2, _ =>
    rw [if_neg (show ¬ nI 2 = 0 by decide), if_neg (show ¬ nI 2 = 1 by decide), if_pos (show nI 2 = 2 from rfl), if_neg (show ¬ (2 : Nat) = 0 by omega), if_neg (show ¬ (2 : Nat) = 1 by omega), if_pos rfl, Int32.add_zero]
    by_cases e : rr = 0
    · rw [if_pos e, e, if_neg (fun z => absurd z.2.1 (by decide))]
    · rw [if_neg e, zm1 (by omega), if_pos ⟨row0, ⟨nI_pos' (by omega), nI_le (by omega) (by omega)⟩⟩, pk_mul, nI_add, Nat.mul_comm]
      congr 2
      omega
  | 3, _ =>
    rw [if_neg (show ¬ nI 3 = 0 by decide), if_neg (show ¬ nI 3 = 1 by decide), if_neg (show ¬ nI 3 = 2 by decide), if_pos (show nI 3 = 3 from rfl), if_neg (show ¬ (3 : Nat) = 0 by omega), if_neg (show ¬ (3 : Nat) = 1 by omega), if_neg (show ¬ (3 : Nat) = 2 by omega), Int32.add_zero, nI_1]
    by_cases e : gN w 1 ≤ rr + 1
    · rw [if_pos e, if_neg (fun z => absurd ((nI_leI (by omega) (by omega)).mp z.2.2) (by omega))]
    · rw [if_neg e, if_pos ⟨row0, ⟨nI_pos' (by omega), nI_le (by omega) (by omega)⟩⟩, pk_mul, nI_add, Nat.mul_comm]
      congr 2
      omega
theorem q_walk {σ : bb_H} {μ : bb_O} (h : ZR σ μ) (x y : Int32) : ZO (F_X4_walk_0 σ x y) (F_X5_walk_0 μ x y) := by
  obtain ⟨hc, hi, hp⟩ := h.1
  have hp6 := hi.2.2.1.2
  unfold F_X4_walk_0 F_X5_walk_0 F_X4_walk_17 F_X4_walk_54 F_X4_walk_78 F_X5_walk_20 F_X5_walk_48 F_X5_walk_55 F_X5_walk_69
  rcases zperson h x with ⟨p, hpp, rfl, e1, e2⟩ | ⟨e1, e2⟩
  · rcases zgd y 0 3 (l := 0) (h := 3) (by decide) (by decide) with ⟨h1, e3, e4⟩ | ⟨h1, e3, e4⟩
    · obtain ⟨d, -, hd, rfl⟩ := zrg (lo := 0) (hi := 3) (by decide) (by decide) h1
      have hcell := (hi.2.2.2.2 p hpp).2.1
      have ht : F_X5_told_0 μ (nI p) 1 = some (nI (gN (μ.2.1 0) (10 + 5 * p))) := by
        rw [show (1 : Int32) = nI 1 from rfl, zm_told rfl (by omega) (by omega), show 9 + 5 * p + 1 = 10 + 5 * p by omega, hcell.1]
      have hb := zc_bes hc hi hcell.2 (show d < 4 by omega)
      have hb2 := zm_bes (μ := μ) rfl hi hcell.2 (show d < 4 by omega)
      have ei : (9 : Int32) + 5 * nI p + 1 = nI (10 + 5 * p) := by rw [fa_lit 9, fa_lit 5, pk_mul, nI_add, nI_1]; congr 1; omega
      have v1 : vp_in (nI p) 6 := vp_in_nI (by omega) (by omega)
      have v2 : vp_in (nI (10 + 5 * p)) 39 := vp_in_nI (by omega) (by omega)
      have c1 : (nI p).toNatClampNeg = p := nI_clamp (by omega)
      have c2 : (nI (10 + 5 * p)).toNatClampNeg = 10 + 5 * p := nI_clamp (by omega)
      have cc : (σ 0).2.1 10 p = nI (gN (μ.2.1 0) (10 + 5 * p)) := ((hc.2 p (by omega)).2.1).trans hcell.1
      simp only [e1, e2, e3, e4, ht, Option.bind_some, z10, ↓reduceIte, bb_g_pos v1, c1, cc, hb, hb2, zc_isFree hc (show p < 32 by omega), zm_isFree (μ := μ) rfl (show p < 32 by omega), ei, bb_g_pos v2, c2]
      by_cases q : bt (μ.2.1 0 5) p = false
      · rw [if_pos q, if_neg z10, if_neg z10]
        rcases zbes_is (R := gN (μ.2.1 0) 0) (by have := hi.2.1.2.1; omega) hcell.2 d with e | ⟨t, ht, e⟩
        · rw [e, if_pos rfl, if_pos rfl]
          exact ZO.one h _
        · rw [e, if_neg (zne4 (by have := hi.cells; omega)), if_neg (zne4 (by have := hi.cells; omega))]
          obtain ⟨a', u, n', e1, e2, e3⟩ := zkeep hc hi hp
          rw [e1, Option.bind_some, e2, Option.bind_some]
          refine ⟨nI t, va_up (va_up (va_up σ 1 a') 0 (σ 0)) 0 (bb_sA (σ 0) 10 (upd ((σ 0).2.1 10) p (nI t))), (upd μ.1 9 n', va_up (va_up μ.2.1 8 u) 0 (upd (μ.2.1 0) (10 + 5 * p) (nI t)), μ.2.2), rfl, rfl, ⟨⟨RC_sA10 hc (by omega) _, ZI_set1 hi p ht, ?_⟩, h.2.1, h.2.2.1, h.2.2.2⟩⟩
          exact e3.w (zg_n _ _ (by omega)) (zg_n _ _ (by omega)) (zg_n _ _ (by omega))
      · rw [if_neg q, if_pos rfl, if_pos rfl]
        exact ZO.one h _
    · simp only [e1, e2, e3, e4, Option.bind_some, z10, ↓reduceIte]
      exact ZO.one h _
  · simp only [e1, e2, Option.bind_some, z10, ↓reduceIte]
    exact ZO.one h _
