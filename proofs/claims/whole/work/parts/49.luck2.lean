/-! ===== luck ===== -/
def zgf (w : Nat → Int32) (p j : Nat) : Bool := decide (j ≠ p ∧ bt (w 5) j = false ∧ (zloud w p < zloud w j ∨ (zloud w j = zloud w p ∧ j < p)))
def zwt (c : Nat) : Nat → Bool → Nat := fun _ b => if b then c else 10 - c
def zg2 (w : Nat → Int32) (p j : Nat) (b : Bool) : Bool := if j = p then !b else (!(zgf w p j) || b)
def zok (w : Nat → Int32) (p c : Nat) : Nat → Bool → Nat := fun j b => if zg2 w p j b = true then zwt c j b else 0
def zall (w : Nat → Int32) (p q : Nat) : Nat → Bool
  | 0 => true
  | k + 1 => zall w p q k && zg2 w p k (q.testBit k)
theorem zall_iff (w : Nat → Int32) (p q : Nat) : ∀ k, zall w p q k = true ↔ ∀ j, j < k → zg2 w p j (q.testBit j) = true
  | 0 => ⟨fun _ j h => by omega, fun _ => rfl⟩
  | k + 1 => by
    show (zall w p q k && zg2 w p k (q.testBit k)) = true ↔ _
    rw [Bool.and_eq_true, zall_iff w p q k]
    constructor
    · intro h j hj
      by_cases e : j = k
      · subst e; exact h.2
      · exact h.1 j (by omega)
    · intro h
      exact ⟨fun j hj => h j (by omega), h k (by omega)⟩
theorem zok_pd (w : Nat → Int32) (p c q : Nat) : ∀ k, zpd (zok w p c) q k = if zall w p q k = true then zpd (zwt c) q k else 0
  | 0 => rfl
  | k + 1 => by
    show zpd (zok w p c) q k * (if zg2 w p k (q.testBit k) = true then zwt c k (q.testBit k) else 0) = if (zall w p q k && zg2 w p k (q.testBit k)) = true then zpd (zwt c) q k * zwt c k (q.testBit k) else 0
    rw [zok_pd w p c q k]
    cases zall w p q k <;> cases zg2 w p k (q.testBit k) <;> simp
theorem zbt6 : ∀ q, q < 64 → ∀ j, j < 6 → bt (nI q) j = q.testBit j := by decide +kernel
theorem zbit1 : ∀ q, q < 64 → ∀ j, j < 6 → (((nI q >>> (nI j &&& 31)) &&& 1 = 1) ↔ q.testBit j = true) := by decide +kernel
theorem zshl6 : ∀ P, P < 7 → (1 : Int32) <<< (nI P &&& 31) = nI (2 ^ P) := by decide +kernel
theorem zfoll_iff {w : Nat → Int32} (hi : ZI w) {p q : Nat} (hp : p < gN w 2) (hq : q < 64) : (zfoll w (nI q) = nI p) ↔ ((bt (w 5) p = false ∧ 0 < zloud w p) ∧ zall w p q (gN w 2) = true) := by
  have hp6 := hi.2.2.1.2
  unfold zfoll
  rw [zfol_B w (nI q) (o := p) (gN w 2) 0 (-4) 0 (by omega) (by omega) (by omega) (fun z => zne4 (show p < 2 ^ 31 by omega) z.symm), zall_iff]
  constructor
  · intro ⟨h1, h2, h3, h4⟩
    refine ⟨⟨h1, h3⟩, fun j hj => ?_⟩
    rw [zbt6 q hq p (by omega)] at h2
    unfold zg2
    by_cases e : j = p
    · subst e
      rw [if_pos rfl, h2]
      rfl
    · rw [if_neg e]
      have h5 := h4 j (by omega) (by omega)
      rw [zbt6 q hq j (by omega)] at h5
      cases hb : q.testBit j
      · have hz : zgf w p j = false := by
          unfold zgf
          refine decide_eq_false (fun z => ?_)
          have h6 := h5 z.2.1 hb
          rcases z.2.2 with y | ⟨y, y2⟩
          · by_cases lt : j < p
            · have := h6.1 lt; omega
            · have := h6.2 (by omega); omega
          · have := h6.1 y2; omega
        rw [hz]
        rfl
      · cases zgf w p j <;> rfl
  · intro ⟨⟨h1, h2⟩, h3⟩
    have hpp := h3 p hp
    unfold zg2 at hpp
    rw [if_pos rfl] at hpp
    refine ⟨h1, ?_, h2, fun j _ hj h4 h5 => ?_⟩
    · rw [zbt6 q hq p (by omega)]
      cases hb : q.testBit p
      · rfl
      · rw [hb] at hpp
        exact absurd hpp (by decide)
    · rw [zbt6 q hq j (by omega)] at h5
      have h6 := h3 j (by omega)
      unfold zg2 at h6
      by_cases e : j = p
      · subst e
        exact ⟨fun y => by omega, fun y => by omega⟩
      · rw [if_neg e, h5, Bool.or_false] at h6
        have hz : zgf w p j = false := by
          cases hb : zgf w p j
          · rfl
          · rw [hb] at h6
            exact absurd h6 (by decide)
        have hn := of_decide_eq_false hz
        exact ⟨fun y => Nat.lt_of_not_le (fun z => hn ⟨e, h4, by omega⟩), fun y => Nat.le_of_not_lt (fun z => hn ⟨e, h4, by omega⟩)⟩
/-! the model's sums -/
def zfq (w : Nat → Int32) (p c q : Nat) : Nat := if zfoll w (nI q) = nI p then zpd (zwt c) q (gN w 2) else 0
theorem zm_lkJ {μ : bb_O} {w : Nat → Int32} (hw : μ.2.1 0 = w) (hi : ZI w) {p c q : Nat} (hc : c ≤ 10) (hq : q < 64) (y : Int32) (k41 : Int32 → Int32 → Int32 → Int32 → Int32 → Int32 → Option Int32) (A B : Nat) : ∀ (m n j : Nat), j + m = gN w 2 → m < n → F_X5_luck_60 μ k41 n (nI p) (nI c) y (nI A) (nI B) (nI q) (nI (zpd (zwt c) q j)) (nI j) = k41 (nI p) (nI c) y (nI (A + zfq w p c q)) (nI (B + zpd (zwt c) q (gN w 2))) (nI (q + 1)) := by
  have hp6 := hi.2.2.1.2
  intro m
  induction m with
  | zero =>
    intro n j h1 h2
    obtain ⟨n, rfl⟩ : ∃ m, n = m + 1 := ⟨n - 1, by omega⟩
    obtain rfl : j = gN w 2 := by omega
    show G_X5_luck_60 μ k41 (F_X5_luck_60 μ k41 n) (nI p) (nI c) y (nI A) (nI B) (nI q) (nI (zpd (zwt c) q (gN w 2))) (nI (gN w 2)) = _
    unfold G_X5_luck_60 F_X5_luck_126 zfq
    rw [hw, hi.2.2.1.1, if_pos (nI_le (by omega) (by omega)), zm_fol hw hi, Option.bind_some, nI_add, nI_1]
    by_cases e : zfoll w (nI q) = nI p
    · rw [if_pos e, if_pos e, nI_add]
    · rw [if_neg e, if_neg e, Int32.add_zero, nI_add]
      try rfl
  | succ m ih =>
    intro n j h1 h2
    obtain ⟨n, rfl⟩ : ∃ m, n = m + 1 := ⟨n - 1, by omega⟩
    rw [← ih n (j + 1) (by omega) (by omega)]
    show G_X5_luck_60 μ k41 (F_X5_luck_60 μ k41 n) (nI p) (nI c) y (nI A) (nI B) (nI q) (nI (zpd (zwt c) q j)) (nI j) = F_X5_luck_60 μ k41 n (nI p) (nI c) y (nI A) (nI B) (nI q) (nI (zpd (zwt c) q j * (if q.testBit j = true then c else 10 - c))) (nI (j + 1))
    unfold G_X5_luck_60 F_X5_luck_92
    rw [hw, hi.2.2.1.1, if_neg (show ¬ nI (gN w 2) ≤ nI j from fun z => absurd ((nI_leI (by omega) (by omega)).mp z) (by omega)), nI_1, show (10 : Int32) - nI c = nI (10 - c) by rw [fa_lit 10, zs_le hc], pk_mul, pk_mul]
    by_cases e : q.testBit j = true
    · rw [if_pos e, if_pos ((zbit1 q hq j (by omega)).mpr e)]
    · rw [if_neg e, if_neg (fun z => e ((zbit1 q hq j (by omega)).mp z))]
theorem zm_lkQ {μ : bb_O} {w : Nat → Int32} (hw : μ.2.1 0 = w) (hi : ZI w) {p c : Nat} (hc : c ≤ 10) (y : Int32) : ∀ (m n q : Nat), q + m = 2 ^ gN w 2 → m < n → F_X5_luck_41 μ n (nI p) (nI c) y (nI (fb_sm (zfq w p c) q)) (nI (fb_sm (fun q => zpd (zwt c) q (gN w 2)) q)) (nI q) = F_X5_luck_143 μ bb_N y (nI (fb_sm (zfq w p c) (2 ^ gN w 2))) (nI (fb_sm (fun q => zpd (zwt c) q (gN w 2)) (2 ^ gN w 2))) (nI (fb_sm (zfq w p c) (2 ^ gN w 2))) (nI (fb_sm (fun q => zpd (zwt c) q (gN w 2)) (2 ^ gN w 2))) := by
  have hp6 := hi.2.2.1.2
  have h64 := zpow6 (gN w 2) (by omega)
  intro m
  induction m with
  | zero =>
    intro n q h1 h2
    obtain ⟨n, rfl⟩ : ∃ m, n = m + 1 := ⟨n - 1, by omega⟩
    obtain rfl : q = 2 ^ gN w 2 := by omega
    show G_X5_luck_41 μ (F_X5_luck_41 μ n) (nI p) (nI c) y _ _ (nI (2 ^ gN w 2)) = _
    unfold G_X5_luck_41
    rw [hw, hi.2.2.1.1, zshl6 _ (by omega), if_pos (nI_le (by omega) (by omega))]
  | succ m ih =>
    intro n q h1 h2
    obtain ⟨n, rfl⟩ : ∃ m, n = m + 1 := ⟨n - 1, by omega⟩
    rw [← ih n (q + 1) (by omega) (by omega), fb_sm_succ, fb_sm_succ]
    show G_X5_luck_41 μ (F_X5_luck_41 μ n) (nI p) (nI c) y _ _ (nI q) = _
    unfold G_X5_luck_41
    rw [hw, hi.2.2.1.1, zshl6 _ (by omega), if_neg (show ¬ nI (2 ^ gN w 2) ≤ nI q from fun z => absurd ((nI_leI (by omega) (by omega)).mp z) (by omega))]
    exact zm_lkJ hw hi hc (by omega) y (F_X5_luck_41 μ n) _ _ (gN w 2) bb_N 0 (by omega) (show gN w 2 < 200 by omega)
/-! the class's product -/
theorem zc_first {c : bb_O} {w : Nat → Int32} (hc : RC c w) (hi : ZI w) {j p : Nat} (hj : j < gN w 2) (hp : p < gN w 2) : F_X0_goesFirst_0 c (nI j) (nI p) = some (if zgf w p j = true then 1 else 0) := by
  have hp6 := hi.2.2.1.2
  have l1 := zloud_le hi hj
  have l2 := zloud_le hi hp
  unfold F_X0_goesFirst_0 F_X0_goesFirst_13 F_X0_goesFirst_40 F_X0_goesFirst_44 F_X0_goesFirst_45 zgf
  simp only [decide_eq_true_eq, bb_g_pos bz0, bb_g_pos bz1]
  by_cases e : j = p
  · subst e
    rw [if_pos rfl, if_neg (fun z => z.1 rfl)]
  · rw [if_neg (fun z => e ((nI_eq (by omega) (by omega)).mp z)), zc_isFree hc (by omega), Option.bind_some, zc_loud hc hi hj, Option.bind_some, zc_loud hc hi hp, Option.bind_some]
    by_cases f : bt (w 5) j = false
    · rw [if_pos f, if_neg z10]
      have s1 : (0 : Int32) < nI (zloud w j) - nI (zloud w p) ↔ zloud w p < zloud w j := by
        rw [← Int32.not_le, zsubn (by omega) (by omega)]
        omega
      by_cases a : zloud w p < zloud w j
      · rw [if_pos (s1.mpr a), if_pos ⟨e, f, Or.inl a⟩]
      · rw [if_neg (fun z => a (s1.mp z))]
        by_cases b : zloud w j = zloud w p
        · rw [if_pos ((zsub0 (by omega) (by omega)).mpr b)]
          by_cases d : j < p
          · rw [if_neg (fun z => absurd ((nI_leI (by omega) (by omega)).mp z) (by omega)), if_pos ⟨e, f, Or.inr ⟨b, d⟩⟩]
          · rw [if_pos (nI_le (by omega) (by omega)), if_neg (fun z => by have := z.2.2; omega)]
        · rw [if_neg (fun z => b ((zsub0 (by omega) (by omega)).mp z)), if_neg (fun z => by have := z.2.2; omega)]
    · rw [if_neg f, if_pos rfl, if_neg (fun z => f z.2.1)]
def zpA (w : Nat → Int32) (p c : Nat) : Nat → Nat
  | 0 => 1
  | k + 1 => zpA w p c k * (if zgf w p k = true then c else 1)
def zpE (w : Nat → Int32) (p : Nat) : Nat → Nat
  | 0 => 1
  | k + 1 => zpE w p k * (if k = p ∨ zgf w p k = true then 1 else 10)
theorem zgf_p (w : Nat → Int32) (p : Nat) : zgf w p p = false := decide_eq_false (fun z => z.1 rfl)
theorem zpA_le (w : Nat → Int32) (p : Nat) {c : Nat} (hc : c ≤ 10) : ∀ k, zpA w p c k ≤ zpA w p 10 k
  | 0 => Nat.le_refl _
  | k + 1 => Nat.mul_le_mul (zpA_le w p hc k) (by split <;> omega)
theorem zpA_pos (w : Nat → Int32) (p : Nat) : ∀ k, 0 < zpA w p 10 k
  | 0 => Nat.one_pos
  | k + 1 => Nat.mul_pos (zpA_pos w p k) (by split <;> omega)
theorem zpE_pos (w : Nat → Int32) (p : Nat) : ∀ k, 0 < zpE w p k
  | 0 => Nat.one_pos
  | k + 1 => Nat.mul_pos (zpE_pos w p k) (by split <;> omega)
theorem zpt_ok (w : Nat → Int32) (p c : Nat) (hc : c ≤ 10) : ∀ k, zpt (zok w p c) k = (if p < k then 10 - c else 1) * (zpA w p c k * zpE w p k)
  | 0 => rfl
  | k + 1 => by
    show zpt (zok w p c) k * (zok w p c k false + zok w p c k true) = (if p < k + 1 then 10 - c else 1) * ((zpA w p c k * (if zgf w p k = true then c else 1)) * (zpE w p k * (if k = p ∨ zgf w p k = true then 1 else 10)))
    rw [zpt_ok w p c hc k]
    by_cases e : k = p
    · subst e
      rw [zgf_p, if_neg (show ¬ k < k by omega), if_pos (show k < k + 1 by omega), if_neg (show ¬ false = true by decide), if_pos (Or.inl rfl)]
      have : zok w k c k false + zok w k c k true = 10 - c := by
        unfold zok zg2 zwt
        rw [if_pos rfl, if_pos rfl]
        rfl
      rw [this, Nat.one_mul, Nat.mul_one, Nat.mul_one, Nat.mul_comm]
    · have h1 : (if p < k + 1 then 10 - c else 1) = (if p < k then 10 - c else 1) := by
        by_cases l : p < k
        · rw [if_pos l, if_pos (by omega)]
        · rw [if_neg l, if_neg (by omega)]
      rw [h1]
      cases g : zgf w p k
      · have : zok w p c k false + zok w p c k true = 10 := by
          unfold zok zg2 zwt
          rw [if_neg e, if_neg e, g]
          show (10 - c) + c = 10
          omega
        rw [this, if_neg (show ¬ false = true by decide), if_neg (show ¬ (k = p ∨ false = true) from fun z => z.elim e (fun y => absurd y (by decide))), Nat.mul_one, Nat.mul_assoc, Nat.mul_assoc]
      · have : zok w p c k false + zok w p c k true = c := by
          unfold zok zg2 zwt
          rw [if_neg e, if_neg e, g]
          show 0 + c = c
          omega
        rw [this, if_pos rfl, if_pos (Or.inr rfl), Nat.mul_one, Nat.mul_assoc, Nat.mul_assoc, Nat.mul_assoc, Nat.mul_comm (zpE w p k) c]
theorem zpt_wt (w : Nat → Int32) (p : Nat) : ∀ k, 10 ^ k = (if p < k then 10 else 1) * (zpA w p 10 k * zpE w p k)
  | 0 => rfl
  | k + 1 => by
    show 10 ^ (k + 1) = (if p < k + 1 then 10 else 1) * ((zpA w p 10 k * (if zgf w p k = true then 10 else 1)) * (zpE w p k * (if k = p ∨ zgf w p k = true then 1 else 10)))
    rw [Nat.pow_succ, zpt_wt w p k]
    by_cases e : k = p
    · subst e
      rw [zgf_p, if_neg (show ¬ k < k by omega), if_pos (show k < k + 1 by omega), if_neg (show ¬ false = true by decide), if_pos (Or.inl rfl), Nat.one_mul, Nat.mul_one, Nat.mul_one, Nat.mul_comm]
    · have h1 : (if p < k + 1 then 10 else 1) = (if p < k then 10 else 1) := by
        by_cases l : p < k
        · rw [if_pos l, if_pos (by omega)]
        · rw [if_neg l, if_neg (by omega)]
      rw [h1]
      cases g : zgf w p k
      · rw [if_neg (show ¬ false = true by decide), if_neg (show ¬ (k = p ∨ false = true) from fun z => z.elim e (fun y => absurd y (by decide))), Nat.mul_one, Nat.mul_assoc, Nat.mul_assoc]
      · rw [if_pos rfl, if_pos (Or.inr rfl), Nat.mul_one, Nat.mul_assoc, Nat.mul_assoc, Nat.mul_assoc, Nat.mul_comm (zpE w p k) 10]
theorem zwt_10 {c : Nat} (hc : c ≤ 10) : ∀ k, zpt (zwt c) k = 10 ^ k
  | 0 => rfl
  | k + 1 => by
    show zpt (zwt c) k * (zwt c k false + zwt c k true) = 10 ^ (k + 1)
    rw [zwt_10 hc k, Nat.pow_succ]
    have : zwt c k false + zwt c k true = 10 := by
      unfold zwt
      show (10 - c) + c = 10
      omega
    rw [this]
theorem zc_lk {σ : bb_H} {w : Nat → Int32} (hcc : RC (σ 0) w) (hi : ZI w) {p c : Nat} (hp : p < gN w 2) (y : Int32) : ∀ (m n k : Nat), k + m = gN w 2 → m < n → F_X4_luck_70 σ n (nI p) (nI c) y (nI ((10 - c) * zpA w p c k)) (nI (10 * zpA w p 10 k)) (nI k) = F_X4_luck_114 σ y (nI ((10 - c) * zpA w p c (gN w 2))) (nI (10 * zpA w p 10 (gN w 2))) := by
  have hp6 := hi.2.2.1.2
  have c2 : (σ 0).1 2 = nI (gN w 2) := hcc.1.2.2.1.trans hi.2.2.1.1
  intro m
  induction m with
  | zero =>
    intro n k h1 h2
    obtain ⟨n, rfl⟩ : ∃ m, n = m + 1 := ⟨n - 1, by omega⟩
    obtain rfl : k = gN w 2 := by omega
    show G_X4_luck_70 σ (F_X4_luck_70 σ n) (nI p) (nI c) y _ _ (nI (gN w 2)) = _
    unfold G_X4_luck_70
    rw [c2, if_pos (nI_le (by omega) (by omega))]
  | succ m ih =>
    intro n k h1 h2
    obtain ⟨n, rfl⟩ : ∃ m, n = m + 1 := ⟨n - 1, by omega⟩
    rw [← ih n (k + 1) (by omega) (by omega)]
    show G_X4_luck_70 σ (F_X4_luck_70 σ n) (nI p) (nI c) y _ _ (nI k) = F_X4_luck_70 σ n (nI p) (nI c) y (nI ((10 - c) * (zpA w p c k * (if zgf w p k = true then c else 1)))) (nI (10 * (zpA w p 10 k * (if zgf w p k = true then 10 else 1)))) (nI (k + 1))
    unfold G_X4_luck_70 F_X4_luck_108
    rw [c2, if_neg (show ¬ nI (gN w 2) ≤ nI k from fun z => absurd ((nI_leI (by omega) (by omega)).mp z) (by omega)), zc_first hcc hi (by omega) hp, Option.bind_some, nI_1, fa_lit 10, pk_mul, pk_mul]
    by_cases g : zgf w p k = true
    · rw [if_pos g, if_pos g, if_pos g, if_neg z10, Nat.mul_assoc, Nat.mul_assoc]
    · rw [if_neg g, if_neg g, if_neg g, if_pos rfl, Nat.mul_one, Nat.mul_one]
theorem zc_114 {σ : bb_H} {yy A B : Nat} (hA : A < 2 ^ 20) (hB : B < 2 ^ 20) (h0 : 0 < B) : F_X4_luck_114 σ (nI yy) (nI A) (nI B) = some (if nI yy = 0 then nI (A / Nat.gcd A B) else nI (B / Nat.gcd A B)) := by
  have hg : 0 < Nat.gcd A B := Nat.gcd_pos_of_pos_right _ h0
  have hl := Nat.gcd_le_right A h0
  unfold F_X4_luck_114 F_X4_luck_141 F_X4_commonDivisor_0
  rw [show F_X4_commonDivisor_7 bb_N (nI A) (nI B) 0 = some (nI (Nat.gcd A B)) from zc_gcd 20 bb_N A B 0 hB (by omega) (by decide) (by omega) (by omega), Option.bind_some, if_neg (nI_ne0 hg (by omega)), bb_g_pos (nI_ne0 hg (by omega)), bb_g_pos (nI_ne0 hg (by omega)), pk_div (by omega) hg (by omega), pk_div (by omega) hg (by omega)]
  split <;> rfl
theorem zpow10 : ∀ P, P < 7 → 10 ^ P < 2 ^ 20 := by decide
theorem q_luck {σ : bb_H} {μ : bb_O} (h : ZR σ μ) (x y z : Int32) : ∃ r, F_X4_luck_0 σ x y z = some r ∧ F_X5_luck_0 μ x y z = some r := by
  obtain ⟨hc, hi, -⟩ := h.1
  have hp6 := hi.2.2.1.2
  have h64 := zpow6 (gN (μ.2.1 0) 2) (by omega)
  have h20 := zpow10 (gN (μ.2.1 0) 2) (by omega)
  unfold F_X4_luck_0 F_X5_luck_0 F_X4_luck_27 F_X5_luck_30
  rcases zperson h x with ⟨p, hpp, rfl, e1, e2⟩ | ⟨e1, e2⟩
  · rcases zgd y 0 10 (l := 0) (h := 10) (by decide) (by decide) with ⟨h1, e3, e4⟩ | ⟨h1, e3, e4⟩
    · rcases zgd z 0 1 (l := 0) (h := 1) (by decide) (by decide) with ⟨h2, e5, e6⟩ | ⟨h2, e5, e6⟩
      · simp only [e1, e2, e3, e4, e5, e6, Option.bind_some, z10, ↓reduceIte, zc_isFree hc (show p < 32 by omega), zc_loud hc hi hpp]
        obtain ⟨c, -, hcc, rfl⟩ := zrg (lo := 0) (hi := 10) (by decide) (by decide) h1
        obtain ⟨yy, -, hyy, rfl⟩ := zrg (lo := 0) (hi := 1) (by decide) (by decide) h2
        have m1 := zm_lkQ (μ := μ) (w := μ.2.1 0) rfl hi (p := p) hcc (nI yy) (2 ^ gN (μ.2.1 0) 2) bb_N 0 (by omega) (show _ < 200 by omega)
        rw [zpd_sum, zwt_10 hcc] at m1
        have m2 : F_X5_luck_41 μ bb_N (nI p) (nI c) (nI yy) 0 0 0 = F_X5_luck_143 μ bb_N (nI yy) (nI (fb_sm (zfq (μ.2.1 0) p c) (2 ^ gN (μ.2.1 0) 2))) (nI (10 ^ gN (μ.2.1 0) 2)) (nI (fb_sm (zfq (μ.2.1 0) p c) (2 ^ gN (μ.2.1 0) 2))) (nI (10 ^ gN (μ.2.1 0) 2)) := m1
        rw [m2]
        have hD : 0 < 10 ^ gN (μ.2.1 0) 2 := Nat.pow_pos (by decide)
        have hll := zloud_le hi hpp
        by_cases base : bt (μ.2.1 0 5) p = false ∧ 0 < zloud (μ.2.1 0) p
        · have hA : fb_sm (zfq (μ.2.1 0) p c) (2 ^ gN (μ.2.1 0) 2) = ((10 - c) * zpA (μ.2.1 0) p c (gN (μ.2.1 0) 2)) * zpE (μ.2.1 0) p (gN (μ.2.1 0) 2) := by
            rw [fb_sm_cong (g := fun q => zpd (zok (μ.2.1 0) p c) q (gN (μ.2.1 0) 2)) (fun q hq => by
              unfold zfq
              show _ = zpd (zok (μ.2.1 0) p c) q (gN (μ.2.1 0) 2)
              rw [zok_pd]
              have hf := zfoll_iff hi hpp (show q < 64 by omega)
              by_cases e : zfoll (μ.2.1 0) (nI q) = nI p
              · rw [if_pos e, if_pos (hf.mp e).2]
              · rw [if_neg e, if_neg (fun a => e (hf.mpr ⟨base, a⟩))]), zpd_sum, zpt_ok _ _ _ hcc, if_pos hpp, Nat.mul_assoc]
          have hB : 10 ^ gN (μ.2.1 0) 2 = (10 * zpA (μ.2.1 0) p 10 (gN (μ.2.1 0) 2)) * zpE (μ.2.1 0) p (gN (μ.2.1 0) 2) := by
            rw [zpt_wt (μ.2.1 0) p, if_pos hpp, Nat.mul_assoc]
          have hE := zpE_pos (μ.2.1 0) p (gN (μ.2.1 0) 2)
          have hab : (10 - c) * zpA (μ.2.1 0) p c (gN (μ.2.1 0) 2) ≤ 10 * zpA (μ.2.1 0) p 10 (gN (μ.2.1 0) 2) := Nat.mul_le_mul (by omega) (zpA_le _ _ hcc _)
          have hb0 : 0 < 10 * zpA (μ.2.1 0) p 10 (gN (μ.2.1 0) 2) := Nat.mul_pos (by decide) (zpA_pos _ _ _)
          have hbD : 10 * zpA (μ.2.1 0) p 10 (gN (μ.2.1 0) 2) ≤ 10 ^ gN (μ.2.1 0) 2 := by
            rw [hB]
            exact Nat.le_mul_of_pos_right _ hE
          have hAD : ((10 - c) * zpA (μ.2.1 0) p c (gN (μ.2.1 0) 2)) * zpE (μ.2.1 0) p (gN (μ.2.1 0) 2) ≤ 10 ^ gN (μ.2.1 0) 2 := by
            rw [hB]
            exact Nat.mul_le_mul_right _ hab
          rw [if_pos base.1, if_neg z10, if_neg (show ¬ nI (zloud (μ.2.1 0) p) ≤ 0 from fun z => absurd ((nI_leI (a := zloud (μ.2.1 0) p) (b := 0) (by omega) (by decide)).mp z) (by omega))]
          have k1 := zc_lk hc hi hpp (c := c) (nI yy) (gN (μ.2.1 0) 2) bb_N 0 (by omega) (show _ < 200 by omega)
          rw [show (10 - c) * zpA (μ.2.1 0) p c 0 = 10 - c from Nat.mul_one _] at k1
          rw [show (10 : Int32) - nI c = nI (10 - c) by rw [fa_lit 10, zs_le hcc]]
          rw [show F_X4_luck_70 σ bb_N (nI p) (nI c) (nI yy) (nI (10 - c)) 10 0 = _ from k1, zc_114 (by omega) (by omega) hb0]
          have hgp : 0 < Nat.gcd (((10 - c) * zpA (μ.2.1 0) p c (gN (μ.2.1 0) 2)) * zpE (μ.2.1 0) p (gN (μ.2.1 0) 2)) (10 ^ gN (μ.2.1 0) 2) := Nat.gcd_pos_of_pos_right _ hD
          rw [hA, zm_gcd (by omega) (by omega) 20 bb_N _ _ h20 (by decide) (by omega) (by omega) hgp]
          refine ⟨_, rfl, ?_⟩
          rw [hB, Nat.gcd_mul_right, Nat.mul_div_mul_right _ _ hE, Nat.mul_div_mul_right _ _ hE]
        · have hA : fb_sm (zfq (μ.2.1 0) p c) (2 ^ gN (μ.2.1 0) 2) = 0 := by
            rw [fb_sm_cong (g := fun _ => 0) (fun q hq => by
              unfold zfq
              have hf := zfoll_iff hi hpp (show q < 64 by omega)
              rw [if_neg (fun e => base (hf.mp e).1)]), fb_sm_const, Nat.mul_zero]
          have hgp : 0 < Nat.gcd 0 (10 ^ gN (μ.2.1 0) 2) := Nat.gcd_pos_of_pos_right _ hD
          rw [hA, zm_gcd (by omega) (by omega) 20 bb_N _ _ h20 (by decide) (by omega) (by omega) hgp, Nat.gcd_zero_left, Nat.zero_div, Nat.div_self hD]
          have k2 : F_X4_luck_114 σ (nI yy) 0 1 = some (if nI yy = 0 then nI 0 else nI 1) := zc_114 (A := 0) (B := 1) (by decide) (by decide) (by decide)
          refine ⟨_, ?_, rfl⟩
          by_cases f : bt (μ.2.1 0 5) p = false
          · have l0 : zloud (μ.2.1 0) p = 0 := by
              by_cases l : 0 < zloud (μ.2.1 0) p
              · exact absurd ⟨f, l⟩ base
              · omega
            rw [if_pos f, if_neg z10, l0, if_pos (show nI 0 ≤ 0 by decide), k2]
          · rw [if_neg f, if_pos rfl, k2]
      · simp only [e1, e2, e3, e4, e5, e6, Option.bind_some, z10, ↓reduceIte]
        exact ⟨_, rfl, rfl⟩
    · simp only [e1, e2, e3, e4, Option.bind_some, z10, ↓reduceIte]
      exact ⟨_, rfl, rfl⟩
  · simp only [e1, e2, Option.bind_some, z10, ↓reduceIte]
    exact ⟨_, rfl, rfl⟩
