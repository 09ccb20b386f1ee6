/-! ===== whom he follows, said at once ===== -/
theorem zfol_C (w : Nat → Int32) (x : Int32) {o : Nat} : ∀ (r p : Nat) (b : Int32) (m : Nat), o < p → p + r < 2 ^ 31 → ¬ b = nI o → ¬ zfol w x r p b m = nI o := by
  intro r
  induction r with
  | zero => intro p b m _ _ h; exact h
  | succ r ih =>
    intro p b m h1 h2 h3
    rw [zfol]
    split
    · exact ih (p + 1) _ _ (by omega) (by omega) (fun z => absurd ((nI_eq (by omega) (by omega)).mp z) (by omega))
    · exact ih (p + 1) _ _ (by omega) (by omega) h3
theorem zfol_A (w : Nat → Int32) (x : Int32) {o : Nat} : ∀ (r p m : Nat), o < p → p + r < 2 ^ 31 → (zfol w x r p (nI o) m = nI o ↔ ∀ j, p ≤ j → j < p + r → bt (w 5) j = false → bt x j = false → zloud w j ≤ m) := by
  intro r
  induction r with
  | zero =>
    intro p m _ _
    exact ⟨fun _ j h1 h2 => by omega, fun _ => rfl⟩
  | succ r ih =>
    intro p m h1 h2
    rw [zfol]
    by_cases c : bt (w 5) p = false ∧ bt x p = false ∧ m < zloud w p
    · rw [if_pos c]
      refine ⟨fun z => absurd z (zfol_C w x r (p + 1) _ _ (by omega) (by omega) (fun z => absurd ((nI_eq (by omega) (by omega)).mp z) (by omega))), fun z => ?_⟩
      have := z p (by omega) (by omega) c.1 c.2.1
      omega
    · rw [if_neg c, ih (p + 1) m (by omega) (by omega)]
      constructor
      · intro z j h3 h4 h5 h6
        by_cases e : j = p
        · subst e
          exact Nat.le_of_not_lt (fun y => c ⟨h5, h6, y⟩)
        · exact z j (by omega) (by omega) h5 h6
      · intro z j h3 h4
        exact z j (by omega) (by omega)
theorem zfol_B (w : Nat → Int32) (x : Int32) {o : Nat} : ∀ (r p : Nat) (b : Int32) (m : Nat), p ≤ o → o < p + r → p + r < 2 ^ 31 → ¬ b = nI o → (zfol w x r p b m = nI o ↔ bt (w 5) o = false ∧ bt x o = false ∧ m < zloud w o ∧ ∀ j, p ≤ j → j < p + r → bt (w 5) j = false → bt x j = false → (j < o → zloud w j < zloud w o) ∧ (o < j → zloud w j ≤ zloud w o)) := by
  intro r
  induction r with
  | zero => intro p b m h1 h2; omega
  | succ r ih =>
    intro p b m h1 h2 h3 h4
    rw [zfol]
    by_cases e : p = o
    · subst e
      by_cases c : bt (w 5) p = false ∧ bt x p = false ∧ m < zloud w p
      · rw [if_pos c, zfol_A w x r (p + 1) _ (by omega) (by omega)]
        constructor
        · intro z
          exact ⟨c.1, c.2.1, c.2.2, fun j q1 q2 q3 q4 => ⟨fun _ => by omega, fun _ => z j (by omega) (by omega) q3 q4⟩⟩
        · intro z j q1 q2 q3 q4
          exact (z.2.2.2 j (by omega) (by omega) q3 q4).2 (by omega)
      · rw [if_neg c]
        exact ⟨fun z => absurd z (zfol_C w x r (p + 1) _ _ (by omega) (by omega) h4), fun z => absurd ⟨z.1, z.2.1, z.2.2.1⟩ c⟩
    · by_cases c : bt (w 5) p = false ∧ bt x p = false ∧ m < zloud w p
      · rw [if_pos c, ih (p + 1) (nI p) (zloud w p) (by omega) (by omega) (by omega) (fun z => e ((nI_eq (by omega) (by omega)).mp z))]
        constructor
        · intro z
          refine ⟨z.1, z.2.1, by have := z.2.2.1; omega, fun j q1 q2 q3 q4 => ?_⟩
          by_cases f : j = p
          · subst f
            exact ⟨fun _ => z.2.2.1, fun _ => by have := z.2.2.1; omega⟩
          · exact z.2.2.2 j (by omega) (by omega) q3 q4
        · intro z
          exact ⟨z.1, z.2.1, (z.2.2.2 p (by omega) (by omega) c.1 c.2.1).1 (by omega), fun j q1 q2 => z.2.2.2 j (by omega) (by omega)⟩
      · rw [if_neg c, ih (p + 1) b m (by omega) (by omega) (by omega) h4]
        constructor
        · intro z
          refine ⟨z.1, z.2.1, z.2.2.1, fun j q1 q2 q3 q4 => ?_⟩
          by_cases f : j = p
          · subst f
            have := Nat.le_of_not_lt (fun y => c ⟨q3, q4, y⟩)
            have := z.2.2.1
            exact ⟨fun _ => by omega, fun _ => by omega⟩
          · exact z.2.2.2 j (by omega) (by omega) q3 q4
        · intro z
          exact ⟨z.1, z.2.1, z.2.2.1, fun j q1 q2 => z.2.2.2 j (by omega) (by omega)⟩
/-! ===== sums over all sets of the unheard ===== -/
def zpd (h : Nat → Bool → Nat) (q : Nat) : Nat → Nat
  | 0 => 1
  | k + 1 => zpd h q k * h k (q.testBit k)
def zpt (h : Nat → Bool → Nat) : Nat → Nat
  | 0 => 1
  | k + 1 => zpt h k * (h k false + h k true)
theorem zsm_mul (f : Nat → Nat) (a : Nat) : ∀ n, fb_sm (fun k => f k * a) n = fb_sm f n * a
  | 0 => by rw [show fb_sm (fun k => f k * a) 0 = 0 from rfl, show fb_sm f 0 = 0 from rfl, Nat.zero_mul]
  | n + 1 => by rw [fb_sm_succ, fb_sm_succ, zsm_mul f a n, Nat.add_mul]
theorem zpd_low (h : Nat → Bool → Nat) (q P : Nat) : ∀ k, k ≤ P → zpd h (2 ^ P + q) k = zpd h q k
  | 0, _ => rfl
  | k + 1, hk => by
    show zpd h (2 ^ P + q) k * h k ((2 ^ P + q).testBit k) = zpd h q k * h k (q.testBit k)
    rw [zpd_low h q P k (by omega), Nat.testBit_two_pow_add_gt (by omega)]
theorem zpd_sum (h : Nat → Bool → Nat) : ∀ P, fb_sm (fun q => zpd h q P) (2 ^ P) = zpt h P
  | 0 => rfl
  | P + 1 => by
    rw [Nat.pow_succ, Nat.mul_two, fb_sm_split]
    have e1 : fb_sm (fun q => zpd h q (P + 1)) (2 ^ P) = fb_sm (fun q => zpd h q P * h P false) (2 ^ P) := fb_sm_cong (fun q hq => by
      show zpd h q P * h P (q.testBit P) = _
      rw [Nat.testBit_lt_two_pow hq])
    have e2 : fb_sm (fun k => zpd h (2 ^ P + k) (P + 1)) (2 ^ P) = fb_sm (fun q => zpd h q P * h P true) (2 ^ P) := fb_sm_cong (fun q hq => by
      show zpd h (2 ^ P + q) P * h P ((2 ^ P + q).testBit P) = _
      rw [zpd_low h q P P (Nat.le_refl _), Nat.testBit_two_pow_add_eq, Nat.testBit_lt_two_pow hq]
      rfl)
    rw [e1, e2, zsm_mul, zsm_mul, zpd_sum h P, ← Nat.mul_add]
    rfl
/-! ===== Euclid ===== -/
theorem zgcd {x y : Nat} : Nat.gcd y (x % y) = Nat.gcd x y := by rw [Nat.gcd_comm y, ← Nat.gcd_rec, Nat.gcd_comm]
theorem zc_gcd : ∀ (k n x y st : Nat), y < 2 ^ k → st + 2 * k + 1 ≤ 64 → 2 * k + 1 < n → x < 2 ^ 31 → y < 2 ^ 31 → F_X4_commonDivisor_7 n (nI x) (nI y) (nI st) = some (nI (Nat.gcd x y)) := by
  have s0 : ∀ (n x st : Nat), st < 64 → F_X4_commonDivisor_7 (n + 1) (nI x) (nI 0) (nI st) = some (nI (Nat.gcd x 0)) := fun n x st h => by
    show G_X4_commonDivisor_7 (F_X4_commonDivisor_7 n) (nI x) (nI 0) (nI st) = _
    unfold G_X4_commonDivisor_7 F_X4_commonDivisor_34
    rw [if_neg (show ¬ (64 : Int32) ≤ nI st from fun z => absurd ((nI_leI (a := 64) (b := st) (by decide) (by omega)).mp z) (by omega)), if_pos (show nI 0 = 0 from rfl), Nat.gcd_zero_right]
  have s1 : ∀ (n x y st : Nat), st < 64 → 0 < y → x < 2 ^ 31 → y < 2 ^ 31 → F_X4_commonDivisor_7 (n + 1) (nI x) (nI y) (nI st) = F_X4_commonDivisor_7 n (nI y) (nI (x % y)) (nI (st + 1)) := fun n x y st h h0 hx hy => by
    show G_X4_commonDivisor_7 (F_X4_commonDivisor_7 n) (nI x) (nI y) (nI st) = _
    unfold G_X4_commonDivisor_7
    rw [if_neg (show ¬ (64 : Int32) ≤ nI st from fun z => absurd ((nI_leI (a := 64) (b := st) (by decide) (by omega)).mp z) (by omega)), if_neg (nI_ne0 h0 hy), bb_g_pos (nI_ne0 h0 hy), zmod hx h0 hy, nI_1]
  intro k
  induction k with
  | zero =>
    intro n x y st h1 h2 h3 hx hy
    obtain ⟨n, rfl⟩ : ∃ m, n = m + 1 := ⟨n - 1, by omega⟩
    obtain rfl : y = 0 := by omega
    exact s0 n x st (by omega)
  | succ k ih =>
    intro n x y st h1 h2 h3 hx hy
    obtain ⟨n, rfl⟩ : ∃ m, n = m + 1 + 1 := ⟨n - 2, by omega⟩
    rw [Nat.pow_succ] at h1
    by_cases y0 : y = 0
    · subst y0
      exact s0 _ x st (by omega)
    · have hr := Nat.mod_lt x (Nat.pos_of_ne_zero y0)
      rw [s1 _ x y st (by omega) (by omega) hx hy, ← zgcd]
      by_cases a : x % y < 2 ^ k
      · exact ih (n + 1) y (x % y) (st + 1) a (by omega) (by omega) hy (by omega)
      · have h2k := Nat.two_pow_pos k
        have hm : y % (x % y) = y - x % y := by
          rw [Nat.mod_eq_sub_mod (by omega)]
          exact Nat.mod_eq_of_lt (by omega)
        rw [s1 _ y (x % y) (st + 1) (by omega) (by omega) hy (by omega), ← zgcd (x := y)]
        exact ih n (x % y) (y % (x % y)) (st + 1 + 1) (by rw [hm]; omega) (by omega) (by omega) (by omega) (by rw [hm]; omega)
theorem zm_gcd {μ : bb_O} {A B yy : Nat} (hA : A < 2 ^ 31) (hB : B < 2 ^ 31) : ∀ (k n x y : Nat), y < 2 ^ k → 2 * k + 1 < n → x < 2 ^ 31 → y < 2 ^ 31 → 0 < Nat.gcd x y → F_X5_luck_143 μ n (nI yy) (nI A) (nI B) (nI x) (nI y) = some (if nI yy = 0 then nI (A / Nat.gcd x y) else nI (B / Nat.gcd x y)) := by
  have s0 : ∀ (n x : Nat), x < 2 ^ 31 → 0 < x → F_X5_luck_143 μ (n + 1) (nI yy) (nI A) (nI B) (nI x) (nI 0) = some (if nI yy = 0 then nI (A / x) else nI (B / x)) := fun n x hx h0 => by
    show G_X5_luck_143 μ (F_X5_luck_143 μ n) (nI yy) (nI A) (nI B) (nI x) (nI 0) = _
    unfold G_X5_luck_143 F_X5_luck_183
    rw [if_pos (show nI 0 = 0 from rfl), bb_g_pos (nI_ne0 h0 hx), bb_g_pos (nI_ne0 h0 hx), pk_div hA h0 hx, pk_div hB h0 hx]
    split <;> rfl
  have s1 : ∀ (n x y : Nat), 0 < y → x < 2 ^ 31 → y < 2 ^ 31 → F_X5_luck_143 μ (n + 1) (nI yy) (nI A) (nI B) (nI x) (nI y) = F_X5_luck_143 μ n (nI yy) (nI A) (nI B) (nI y) (nI (x % y)) := fun n x y h0 hx hy => by
    show G_X5_luck_143 μ (F_X5_luck_143 μ n) (nI yy) (nI A) (nI B) (nI x) (nI y) = _
    unfold G_X5_luck_143
    rw [if_neg (nI_ne0 h0 hy), bb_g_pos (nI_ne0 h0 hy), zmod hx h0 hy]
  intro k
  induction k with
  | zero =>
    intro n x y h1 h3 hx hy hg
    obtain ⟨n, rfl⟩ : ∃ m, n = m + 1 := ⟨n - 1, by omega⟩
    obtain rfl : y = 0 := by omega
    rw [Nat.gcd_zero_right] at hg ⊢
    exact s0 n x hx hg
  | succ k ih =>
    intro n x y h1 h3 hx hy hg
    obtain ⟨n, rfl⟩ : ∃ m, n = m + 1 + 1 := ⟨n - 2, by omega⟩
    rw [Nat.pow_succ] at h1
    by_cases y0 : y = 0
    · subst y0
      rw [Nat.gcd_zero_right] at hg ⊢
      exact s0 _ x hx hg
    · have hr := Nat.mod_lt x (Nat.pos_of_ne_zero y0)
      rw [← zgcd] at hg
      rw [s1 _ x y (by omega) hx hy, ← zgcd (x := x)]
      by_cases a : x % y < 2 ^ k
      · exact ih (n + 1) y (x % y) a (by omega) hy (by omega) hg
      · have h2k := Nat.two_pow_pos k
        have hm : y % (x % y) = y - x % y := by
          rw [Nat.mod_eq_sub_mod (by omega)]
          exact Nat.mod_eq_of_lt (by omega)
        rw [← zgcd (x := y)] at hg
        rw [s1 _ y (x % y) (by omega) hy (by omega), ← zgcd (x := y)]
        exact ih n (x % y) (y % (x % y)) (by rw [hm]; omega) (by omega) (by omega) (by rw [hm]; omega) hg
