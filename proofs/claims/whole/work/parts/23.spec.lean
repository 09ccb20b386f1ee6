/-! ===== plain numbers ===== -/
theorem zmod {a d : Nat} (ha : a < 2 ^ 31) (h0 : 0 < d) (hd : d < 2 ^ 31) : nI a % nI d = nI (a % d) := by
  rw [← irem_eq_mod]
  exact pk_rem ha h0 hd
def zd (a b : Nat) : Nat := (a - b) + (b - a)
theorem zs_le {a b : Nat} (h : b ≤ a) : nI a - nI b = nI (a - b) := pk_sub h
def gN (w : Nat → Int32) (i : Nat) : Nat := (w i).toNatClampNeg
/-! ===== a city: the model's row of numbers w; what it must keep ===== -/
def ZI (w : Nat → Int32) : Prop := (w 0 = nI (gN w 0) ∧ 2 ≤ gN w 0 ∧ gN w 0 ≤ 6) ∧ (w 1 = nI (gN w 1) ∧ 2 ≤ gN w 1 ∧ gN w 1 ≤ 6) ∧ (w 2 = nI (gN w 2) ∧ gN w 2 ≤ 6) ∧ (w 3 = nI (gN w 3) ∧ gN w 3 < gN w 0 * gN w 1) ∧ ∀ p, p < gN w 2 → (w (9 + 5 * p) = nI (gN w (9 + 5 * p)) ∧ gN w (9 + 5 * p) < 5) ∧ (w (10 + 5 * p) = nI (gN w (10 + 5 * p)) ∧ gN w (10 + 5 * p) < gN w 0 * gN w 1) ∧ (w (11 + 5 * p) = nI (gN w (11 + 5 * p)) ∧ gN w (11 + 5 * p) < 10) ∧ (w (12 + 5 * p) = nI (gN w (12 + 5 * p)) ∧ gN w (12 + 5 * p) < 64) ∧ (w (13 + 5 * p) = nI (gN w (13 + 5 * p)) ∧ gN w (13 + 5 * p) < 64)
/-- the class's city holds the same numbers -/
def RC (c : bb_O) (w : Nat → Int32) : Prop := (c.1 0 = w 0 ∧ c.1 1 = w 1 ∧ c.1 2 = w 2 ∧ c.1 3 = w 3 ∧ c.1 4 = w 5 ∧ c.1 5 = w 4 ∧ c.1 6 = w 6 ∧ c.1 7 = w 7 ∧ c.1 8 = w 8) ∧ ∀ p, p < 6 → c.2.1 9 p = w (9 + 5 * p) ∧ c.2.1 10 p = w (10 + 5 * p) ∧ c.2.1 11 p = w (11 + 5 * p) ∧ c.2.1 12 p = w (12 + 5 * p) ∧ c.2.1 13 p = w (13 + 5 * p)
def zfar (w : Nat → Int32) (p : Nat) : Nat := zd (gN w (10 + 5 * p) / gN w 1) (gN w 3 / gN w 1) + zd (gN w (10 + 5 * p) % gN w 1) (gN w 3 % gN w 1)
def zpl (w : Nat → Int32) (p : Nat) : Nat := gN w (11 + 5 * p) - zfar w p
def zloud (w : Nat → Int32) (p : Nat) : Nat := if gN w (9 + 5 * p) = 0 then zpl w p else if gN w (9 + 5 * p) = 1 then zpl w p / 2 else if gN w (9 + 5 * p) = 2 then zpl w p + 4 else if gN w (9 + 5 * p) = 3 then (if w 4 % 2 = 0 then 0 else zpl w p / 2) else if zfar w p ≤ 2 then 2 * (zpl w p + 4) else zpl w p + 4
theorem ZI.cells {w : Nat → Int32} (h : ZI w) : gN w 0 * gN w 1 ≤ 36 := Nat.mul_le_mul h.1.2.2 h.2.1.2.2
/-! ===== the model's readings ===== -/
theorem zm_told {μ : bb_O} {w : Nat → Int32} (hw : μ.2.1 0 = w) {p j : Nat} (hp : p < 6) (hj : j < 5) : F_X5_told_0 μ (nI p) (nI j) = some (w (9 + 5 * p + j)) := by
  unfold F_X5_told_0
  have e : (9 : Int32) + 5 * nI p + nI j = nI (9 + 5 * p + j) := by
    rw [fa_lit 9, fa_lit 5, pk_mul, nI_add, nI_add]
  rw [e, bb_g_pos (vp_in_nI (by omega) (by omega)), nI_clamp (by omega), hw]
theorem zm_apart {a b : Nat} (ha : a < 2 ^ 31) (hb : b < 2 ^ 31) : F_X5_apart_0 (nI a) (nI b) = some (nI (zd a b)) := by
  unfold F_X5_apart_0 F_X5_apart_14 zd
  by_cases h : b ≤ a
  · rw [if_pos ((nI_leI hb ha).mpr h), zs_le h, show b - a = 0 by omega, Nat.add_zero]
  · rw [if_neg (fun q => h ((nI_leI hb ha).mp q)), zs_le (by omega), show a - b = 0 by omega, Nat.zero_add]
theorem zdiv_lt {a d : Nat} : a / d ≤ a := Nat.div_le_self a d
theorem zm_far {μ : bb_O} {w : Nat → Int32} (hw : μ.2.1 0 = w) (hi : ZI w) {p : Nat} (hp : p < gN w 2) : F_X5_far_0 μ (nI p) = some (nI (zfar w p)) := by
  obtain ⟨h0, h1, h2, h3, h4⟩ := hi
  obtain ⟨-, ⟨hc, hc2⟩, -, -, -⟩ := h4 p hp
  have hm := Nat.mul_le_mul h0.2.2 h1.2.2
  unfold F_X5_far_0
  rw [show (1 : Int32) = nI 1 from rfl, zm_told hw (by omega) (by omega), Option.bind_some, hw, show 9 + 5 * p + 1 = 10 + 5 * p by omega, hc, h1.1, h3.1]
  have hz : ¬ nI (gN w 1) = 0 := nI_ne0 (by omega) (by omega)
  have b1 : gN w (10 + 5 * p) < 2 ^ 31 := by omega
  have b3 : gN w 3 < 2 ^ 31 := by omega
  rw [bb_g_pos hz, bb_g_pos hz, pk_div b1 (by omega) (by omega), pk_div b3 (by omega) (by omega), zmod b1 (by omega) (by omega), zmod b3 (by omega) (by omega)]
  have d1 := Nat.div_le_self (gN w (10 + 5 * p)) (gN w 1)
  have d2 := Nat.div_le_self (gN w 3) (gN w 1)
  have d3 := Nat.mod_le (gN w (10 + 5 * p)) (gN w 1)
  have d4 := Nat.mod_le (gN w 3) (gN w 1)
  rw [zm_apart (by omega) (by omega), Option.bind_some, bb_g_pos hz, bb_g_pos hz, zm_apart (by omega) (by omega), Option.bind_some, nI_add]
  rfl
theorem zd_le {a b c : Nat} (ha : a ≤ c) (hb : b ≤ c) : zd a b ≤ c := by unfold zd; omega
theorem zfar_le {w : Nat → Int32} (hi : ZI w) {p : Nat} (hp : p < gN w 2) : zfar w p ≤ 72 := by
  have hm := hi.cells
  obtain ⟨h0, h1, h2, h3, h4⟩ := hi
  obtain ⟨-, ⟨hc, hc2⟩, -, -, -⟩ := h4 p hp
  have d1 := Nat.div_le_self (gN w (10 + 5 * p)) (gN w 1)
  have d2 := Nat.div_le_self (gN w 3) (gN w 1)
  have d3 := Nat.mod_le (gN w (10 + 5 * p)) (gN w 1)
  have d4 := Nat.mod_le (gN w 3) (gN w 1)
  have e1 := zd_le (c := 36) (show gN w (10 + 5 * p) / gN w 1 ≤ 36 by omega) (show gN w 3 / gN w 1 ≤ 36 by omega)
  have e2 := zd_le (c := 36) (show gN w (10 + 5 * p) % gN w 1 ≤ 36 by omega) (show gN w 3 % gN w 1 ≤ 36 by omega)
  unfold zfar
  omega
theorem zm_loud {μ : bb_O} {w : Nat → Int32} (hw : μ.2.1 0 = w) (hi : ZI w) {p : Nat} (hp : p < gN w 2) : F_X5_loud_0 μ (nI p) = some (nI (zloud w p)) := by
  have hf := zfar_le hi hp
  have hfar := zm_far hw hi hp
  obtain ⟨h0, h1, h2, h3, h4⟩ := hi
  obtain ⟨⟨hk, hk2⟩, -, ⟨hn, hn2⟩, -, -⟩ := h4 p hp
  have ht2 : F_X5_told_0 μ (nI p) 2 = some (nI (gN w (11 + 5 * p))) := by
    rw [show (2 : Int32) = nI 2 from rfl, zm_told hw (by omega) (by omega), show 9 + 5 * p + 2 = 11 + 5 * p by omega, hn]
  have ht0 : F_X5_told_0 μ (nI p) 0 = some (nI (gN w (9 + 5 * p))) := by
    rw [show (0 : Int32) = nI 0 from rfl, zm_told hw (by omega) (by omega), Nat.add_zero, hk]
  have key : F_X5_loud_0 μ (nI p) = F_X5_loud_28 μ (nI p) (nI (zfar w p)) (nI (zpl w p)) := by
    unfold F_X5_loud_0 zpl
    rw [hfar, Option.bind_some, ht2, Option.bind_some]
    by_cases h : gN w (11 + 5 * p) ≤ zfar w p
    · rw [if_pos ((nI_leI (by omega) (by omega)).mpr h), show gN w (11 + 5 * p) - zfar w p = 0 by omega]
      rfl
    · rw [if_neg (fun q => h ((nI_leI (by omega) (by omega)).mp q)), Option.bind_some, zs_le (by omega)]
  have hp9 : zpl w p < 10 := by unfold zpl; omega
  rw [key]
  unfold F_X5_loud_28 F_X5_loud_92 F_X5_loud_109 zloud
  rw [ht0, Option.bind_some, hw]
  have hdv : nI (zpl w p) / 2 = nI (zpl w p / 2) := pk_div (by omega) (by decide) (by decide)
  have had : nI (zpl w p) + 4 = nI (zpl w p + 4) := nI_add _ 4
  rw [hdv, had]
  have q0 : (nI (gN w (9 + 5 * p)) = 0) ↔ gN w (9 + 5 * p) = 0 := nI_eq (by omega) (by decide)
  have q1 : (nI (gN w (9 + 5 * p)) = 1) ↔ gN w (9 + 5 * p) = 1 := nI_eq (by omega) (by decide)
  have q2 : (nI (gN w (9 + 5 * p)) = 2) ↔ gN w (9 + 5 * p) = 2 := nI_eq (by omega) (by decide)
  have q3 : (nI (gN w (9 + 5 * p)) = 3) ↔ gN w (9 + 5 * p) = 3 := nI_eq (by omega) (by decide)
  have q4 : ((2 : Int32) < nI (zfar w p)) ↔ 2 < zfar w p := nI_ltI (by decide) (by omega)
  have hml : (2 : Int32) * nI (zpl w p + 4) = nI (2 * (zpl w p + 4)) := pk_mul 2 _
  simp only [q0, q1, q2, q3, q4, hml]
  split
  · rfl
  split
  · rfl
  split
  · rfl
  split
  · split <;> rfl
  by_cases h : zfar w p ≤ 2
  · rw [if_neg (by omega), if_pos h]
  · rw [if_pos (by omega), if_neg h]
