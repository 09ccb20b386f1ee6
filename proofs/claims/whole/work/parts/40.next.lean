/-! ===== next ===== -/
theorem zsubc (x y : Int32) : x + y - x = y := by rw [Int32.add_comm, Int32.add_sub_cancel]
theorem q_next {σ : bb_H} {μ : bb_O} (h : ZR σ μ) (x : Int32) : ZO (F_X4_next_0 σ x) (F_X5_next_0 μ x) := by
  obtain ⟨hc, hi, -⟩ := h.1
  unfold F_X4_next_0 F_X5_next_0
  rcases zgd x 0 2 (l := 0) (h := 2) (by decide) (by decide) with ⟨h1, e1, e2⟩ | ⟨h1, e1, e2⟩
  · simp only [e1, e2, Option.bind_some, z10, ↓reduceIte]
    obtain ⟨y, -, hy, rfl⟩ := zrg (lo := 0) (hi := 2) (by decide) (by decide) h1
    obtain ⟨t, f1, f2⟩ := zc_take (t := σ 2) hc
    obtain ⟨u, f3, f4⟩ := zm_asides μ
    obtain ⟨who, c', r, s', q1, q2, q3, q4, q5, q6⟩ := zuntil 60 bb_N 0 t (bb_sA μ 10 u) f2 hi (by omega) (by decide)
    rw [f1, f3, Option.bind_some, Option.bind_some]
    unfold F_X0_passUntilCaught_0 F_X5_nextBehind_0
    rw [show (va_up (va_up σ 2 (t, σ 0).1) 0 (t, σ 0).2) 2 = t from rfl, show (0 : Int32) = nI 0 from rfl, q1, show (nI 0 : Int32) = 0 from rfl, show F_X5_nextBehind_4 bb_N (bb_sA μ 10 u) 0 0 = some (r, s') from q2, Option.bind_some, Option.bind_some]
    have hz : ZR (va_up (va_up (va_up σ 2 t) 0 (σ 0)) 2 c') s' := ZR_fr h (fun k hk => by rw [va_up_ne _ _ hk]; exact zσ2 σ t k hk) ((ZFr.s10 μ u).trans q3) (fun i hi => (q5 i hi).trans (f4 i hi))
    unfold F_X4_next_40 F_X4_next_80 F_X5_next_23 F_X5_next_58
    rcases q6 with ⟨rfl, rfl⟩ | ⟨j, p, g1, g2, g3, rfl, rfl, g6, g7, g8⟩
    · rw [if_pos rfl, if_pos rfl]
      exact ZO.one hz _
    · have hp6 := hi.2.2.1.2
      have g3' : p < gN (μ.2.1 0) 2 := g3
      rw [if_neg (zne4 (show p < 2 ^ 31 by omega)), if_neg (show ¬ nI j = (61 : Int32) from fun z => absurd ((nI_eq (a := j) (b := 61) (by omega) (by decide)).mp z) (by omega))]
      match y, hy with
      | 0, _ =>
        rw [if_pos (show nI 0 = 0 from rfl), if_pos (show nI 0 = 0 from rfl), g6]
        exact ZO.one hz _
      | 1, _ =>
        rw [if_neg (show ¬ nI 1 = 0 by decide), if_neg (show ¬ nI 1 = 0 by decide), if_pos (show nI 1 = 1 from rfl), if_pos (show nI 1 = 1 from rfl)]
        have e : c'.1 5 - (σ 0).1 5 = nI j := by
          rw [hc.1.2.2.2.2.2.1]
          have g9 : c'.1 5 + 0 = μ.2.1 0 4 + nI j := g7
          rw [Int32.add_zero] at g9
          rw [g9, zsubc]
        refine ⟨nI j, _, s', ?_, rfl, hz⟩
        rw [← e]
        rfl
      | 2, _ =>
        rw [if_neg (show ¬ nI 2 = 0 by decide), if_neg (show ¬ nI 2 = 0 by decide), if_neg (show ¬ nI 2 = 1 by decide), if_neg (show ¬ nI 2 = 1 by decide)]
        refine ⟨s'.1 2, _, s', ?_, rfl, hz⟩
        rw [show (va_up (va_up (va_up σ 2 (t, σ 0).1) 0 (t, σ 0).2) 2 (nI p, c').2) 2 = c' from rfl]
        rw [show ((F_X0_feel_0 c' (nI p, c').1).bind fun q8 => (F_X0_namedBy_0 c' q8).bind fun q9 => some (q9, va_up (va_up (va_up σ 2 (t, σ 0).1) 0 (t, σ 0).2) 2 (nI p, c').2)) = (((F_X0_feel_0 c' (nI p)).bind (F_X0_namedBy_0 c')).bind fun q9 => some (q9, va_up (va_up (va_up σ 2 (t, σ 0).1) 0 (t, σ 0).2) 2 (nI p, c').2)) from (Option.bind_assoc _ _ _).symm, g8, Option.bind_some]
  · simp only [e1, e2, Option.bind_some, z10, ↓reduceIte]
    exact ZO.one h _
/-! ===== one loop over all cells ===== -/
def ZJ (σ0 : bb_H) (μ : bb_O) (σ : bb_H) (s : bb_O) : Prop := (∀ k, k ≠ 2 → σ k = σ0 k) ∧ ZFr μ s ∧ (∀ i, i < 39 → s.2.1 0 i = μ.2.1 0 i) ∧ ∀ i, i < 39 → s.2.1 10 i = μ.2.1 0 i
theorem ZJ.zr {σ0 σ : bb_H} {μ s : bb_O} (h : ZR σ0 μ) (j : ZJ σ0 μ σ s) : ZR σ s := ZR_fr h j.1 j.2.1 j.2.2.1
theorem zcells2 {σ0 σ : bb_H} {μ s : bb_O} (h : ZR σ0 μ) (j : ZJ σ0 μ σ s) : F_X0_cells_0 (σ 0) = some (nI (gN (μ.2.1 0) 0 * gN (μ.2.1 0) 1)) ∧ F_X5_cells_0 s = some (nI (gN (μ.2.1 0) 0 * gN (μ.2.1 0) 1)) := by
  have q := zcells (j.zr h)
  have g0 : gN (s.2.1 0) 0 = gN (μ.2.1 0) 0 := by unfold gN; rw [j.2.2.1 0 (by omega)]
  have g1 : gN (s.2.1 0) 1 = gN (μ.2.1 0) 1 := by unfold gN; rw [j.2.2.1 1 (by omega)]
  rw [g0, g1] at q
  exact q
theorem zσ22 (σ : bb_H) (t c1 c2 : bb_O) : ∀ k, k ≠ 2 → va_up (va_up (va_up (va_up σ 2 t) 0 (σ 0)) 2 c1) 2 c2 k = σ k := fun k hk => by
  rw [va_up_ne _ _ hk, va_up_ne _ _ hk]
  exact zσ2 σ t k hk
/-! ===== turned ===== -/
theorem q_turL {σ0 : bb_H} {μ : bb_O} (h : ZR σ0 μ) {p : Nat} (hp : p < 6) (y : Int32) : ∀ (m n k : Nat) (σ : bb_H) (s : bb_O) (a b : Int32), ZJ σ0 μ σ s → k + m = gN (μ.2.1 0) 0 * gN (μ.2.1 0) 1 → m < n → ZO (F_X4_turned_28 n σ (nI p) y a b (nI k)) (F_X5_turned_33 n s (nI p) y a b (nI k)) := by
  have hcl := h.1.2.1.cells
  intro m
  induction m with
  | zero =>
    intro n k σ s a b hj h1 h2
    obtain ⟨n, rfl⟩ : ∃ m, n = m + 1 := ⟨n - 1, by omega⟩
    obtain ⟨k1, k2⟩ := zcells2 h hj
    show ZO (G_X4_turned_28 (F_X4_turned_28 n) σ (nI p) y a b (nI k)) (G_X5_turned_33 (F_X5_turned_33 n) s (nI p) y a b (nI k))
    unfold G_X4_turned_28 G_X5_turned_33 F_X4_turned_103 F_X5_turned_121
    rw [k1, k2, Option.bind_some, Option.bind_some, if_pos (nI_le (by omega) (by omega)), if_pos (nI_le (by omega) (by omega))]
    by_cases e : y = 0
    · rw [if_pos e, if_pos e]
      exact ZO.one (hj.zr h) _
    · rw [if_neg e, if_neg e]
      exact ZO.one (hj.zr h) _
  | succ m ih =>
    intro n k σ s a b hj h1 h2
    obtain ⟨n, rfl⟩ : ∃ m, n = m + 1 := ⟨n - 1, by omega⟩
    obtain ⟨k1, k2⟩ := zcells2 h hj
    have hr := hj.zr h
    obtain ⟨hc, hi, -⟩ := hr.1
    have g0 : gN (s.2.1 0) 0 = gN (μ.2.1 0) 0 := by unfold gN; rw [hj.2.2.1 0 (by omega)]
    have g1 : gN (s.2.1 0) 1 = gN (μ.2.1 0) 1 := by unfold gN; rw [hj.2.2.1 1 (by omega)]
    obtain ⟨t, f1, f2⟩ := zc_take (t := σ 2) hc
    have hi2 : ZI (upd (s.2.1 0) 3 (nI k)) := ZI_of hi (fun i z => zu_n _ _ (by omega)) (zu_s _ _ _) (by rw [g0, g1]; omega)
    obtain ⟨who, c', r, s', q1, q2, q3, q4, q5, q6⟩ := zuntil 60 bb_N 0 (bb_sf t 3 (nI k)) (bb_sA s 0 (upd (s.2.1 0) 3 (nI k))) (RC_sf3 f2 _) hi2 (by omega) (by decide)
    have hj' : ZJ σ0 μ (va_up (va_up (va_up (va_up σ 2 t) 0 (σ 0)) 2 (bb_sf t 3 (nI k))) 2 c') s' := ⟨fun i hi => (zσ22 σ t _ c' i hi).trans (hj.1 i hi), (hj.2.1.trans (ZFr.s0 s _)).trans q3, fun i hi => (q5 i hi).trans (hj.2.2.2 i hi), fun i hi => by rw [q4]; exact hj.2.2.2 i hi⟩
    have hn : ¬ nI (gN (μ.2.1 0) 0 * gN (μ.2.1 0) 1) ≤ nI k := fun z => absurd ((nI_leI (by omega) (by omega)).mp z) (by omega)
    show ZO (G_X4_turned_28 (F_X4_turned_28 n) σ (nI p) y a b (nI k)) (G_X5_turned_33 (F_X5_turned_33 n) s (nI p) y a b (nI k))
    unfold G_X4_turned_28 G_X5_turned_33 F_X4_turned_60 F_X5_turned_50 F_X0_passUntilCaught_0 F_X5_nextBehind_0
    rw [k1, k2, Option.bind_some, Option.bind_some, if_neg hn, if_neg hn, f1, Option.bind_some]
    rw [show (va_up (va_up (va_up σ 2 (t, σ 0).1) 0 (t, σ 0).2) 2 (bb_sf ((va_up (va_up σ 2 (t, σ 0).1) 0 (t, σ 0).2) 2) 3 (nI k))) 2 = bb_sf t 3 (nI k) from rfl]
    rw [show F_X0_passUntilCaught_5 bb_N (bb_sf t 3 (nI k)) (-4) 0 = some (who, c') from q1, show F_X5_nextBehind_4 bb_N (bb_sA s 0 (upd (s.2.1 0) 3 (nI k))) 0 0 = some (r, s') from q2, Option.bind_some, Option.bind_some]
    unfold F_X4_turned_82 F_X4_turned_87 F_X5_turned_59 F_X5_turned_71 F_X5_turned_72 F_X5_turned_88 F_X5_turned_90 F_X5_turned_103
    have no : ZO (F_X4_turned_28 n (va_up (va_up (va_up (va_up σ 2 t) 0 (σ 0)) 2 (bb_sf t 3 (nI k))) 2 c') (nI p) y a b (nI (k + 1))) (F_X5_turned_33 n s' (nI p) y a b (nI (k + 1))) := ih n (k + 1) _ _ a b hj' (by omega) (by omega)
    rcases q6 with ⟨rfl, rfl⟩ | ⟨j, w', g1, g2, g3, rfl, rfl, g6, g7, g8⟩
    · simp only [show ¬ (-4 : Int32) = nI p from fun z => zne4 (show p < 2 ^ 31 by omega) z.symm, show (61 : Int32) ≤ 61 from by decide, ↓reduceIte, nI_1, Int32.add_zero]
      exact no
    · have h61 : ¬ (61 : Int32) ≤ nI j := fun z => absurd ((nI_leI (a := 61) (b := j) (by decide) (by omega)).mp z) (by omega)
      by_cases e : nI w' = nI p
      · rw [if_neg h61, g6, if_pos e, if_pos e]
        by_cases e0 : a = 0
        · simp only [e0, ↓reduceIte, z10, nI_1]
          exact ih n (k + 1) _ _ _ _ hj' (by omega) (by omega)
        · simp only [e0, ↓reduceIte, z10, nI_1]
          exact ih n (k + 1) _ _ _ _ hj' (by omega) (by omega)
      · simp only [h61, g6, e, ↓reduceIte, nI_1, Int32.add_zero]
        exact no
theorem q_turned {σ : bb_H} {μ : bb_O} (h : ZR σ μ) (x y : Int32) : ZO (F_X4_turned_0 σ x y) (F_X5_turned_0 μ x y) := by
  obtain ⟨hc, hi, -⟩ := h.1
  have hp6 := hi.2.2.1.2
  have hcl := hi.cells
  unfold F_X4_turned_0 F_X5_turned_0 F_X4_turned_17 F_X5_turned_18
  rcases zperson h x with ⟨p, hpp, rfl, e1, e2⟩ | ⟨e1, e2⟩
  · rcases zgd y 0 1 (l := 0) (h := 1) (by decide) (by decide) with ⟨h1, e3, e4⟩ | ⟨h1, e3, e4⟩
    · simp only [e1, e2, e3, e4, Option.bind_some, z10, ↓reduceIte]
      obtain ⟨u, f3, f4⟩ := zm_asides μ
      rw [f3, Option.bind_some]
      exact q_turL h (show p < 6 by omega) y (gN (μ.2.1 0) 0 * gN (μ.2.1 0) 1) bb_N 0 σ (bb_sA μ 10 u) 0 (-4) ⟨fun _ _ => rfl, ZFr.s10 μ u, fun _ _ => rfl, f4⟩ (by omega) (show _ < 200 by omega)
    · simp only [e1, e2, e3, e4, Option.bind_some, z10, ↓reduceIte]
      exact ZO.one h _
  · simp only [e1, e2, Option.bind_some, z10, ↓reduceIte]
    exact ZO.one h _
/-! ===== behind how many minutes one is caught ===== -/
theorem zbehind {p N : Nat} (hN : N ≤ 60) : ∀ (m n k : Nat) (c s : bb_O), RC c (s.2.1 0) → ZI (s.2.1 0) → p < gN (s.2.1 0) 2 → bt (s.2.1 0 5) p = false → k + m = N → m < n → ∃ j c' r s', F_X0_behindHowMany_2 n c (nI p) (nI N) (nI (k + 1)) = some (nI j, c') ∧ F_X5_caughtBehind_2 n s (nI p) (nI N) (nI k) = some (r, s') ∧ ZFr s s' ∧ s'.2.1 10 = s.2.1 10 ∧ (∀ i, i < 39 → s'.2.1 0 i = s.2.1 10 i) ∧ k < j ∧ ((j = N + 1 ∧ r = 61) ∨ (j ≤ N ∧ r = nI j)) := by
  intro m
  induction m with
  | zero =>
    intro n k c s hc hi hp hf h1 h2
    have hp6 := hi.2.2.1.2
    obtain ⟨n, rfl⟩ : ∃ m, n = m + 1 := ⟨n - 1, by omega⟩
    obtain rfl : k = N := by omega
    obtain ⟨u, b1, b2⟩ := zm_backs s
    refine ⟨k + 1, c, 61, bb_sA s 0 u, ?_, ?_, ZFr.s0 _ _, rfl, b2, by omega, Or.inl ⟨rfl, rfl⟩⟩
    · show G_X0_behindHowMany_2 (F_X0_behindHowMany_2 n) c (nI p) (nI k) (nI (k + 1)) = _
      unfold G_X0_behindHowMany_2
      rw [if_pos (nI_lt (by omega) (by omega)), nI_1]
    · show G_X5_caughtBehind_2 (F_X5_caughtBehind_2 n) s (nI p) (nI k) (nI k) = _
      unfold G_X5_caughtBehind_2 F_X5_caughtBehind_26 F_X5_caughtBehind_40
      rw [if_pos (nI_le (by omega) (by omega)), zm_isFree rfl (by omega), Option.bind_some, if_pos hf, if_neg z10, b1, Option.bind_some]
  | succ m ih =>
    intro n k c s hc hi hp hf h1 h2
    have hp6 := hi.2.2.1.2
    obtain ⟨n, rfl⟩ : ∃ m, n = m + 1 := ⟨n - 1, by omega⟩
    obtain ⟨c', e4, e5⟩ := zc_pass hc hi
    have e6 := zm_goesBy (μ := s) (w := s.2.1 0) rfl hi
    have g2 : gN (zps (s.2.1 0)) 2 = gN (s.2.1 0) 2 := by unfold gN; rw [zps_hi _ (by omega)]
    have s1 : F_X0_behindHowMany_2 (n + 1) c (nI p) (nI N) (nI (k + 1)) = if zwho (s.2.1 0) = nI p then some (nI (k + 1), c') else F_X0_behindHowMany_2 n c' (nI p) (nI N) (nI (k + 1 + 1)) := by
      show G_X0_behindHowMany_2 (F_X0_behindHowMany_2 n) c (nI p) (nI N) (nI (k + 1)) = _
      unfold G_X0_behindHowMany_2
      rw [if_neg (show ¬ nI N < nI (k + 1) from fun z => absurd ((nI_ltI (by omega) (by omega)).mp z) (by omega)), e4, Option.bind_some, nI_1]
    have s2 : F_X5_caughtBehind_2 (n + 1) s (nI p) (nI N) (nI k) = F_X5_caughtBehind_2 n (zgo s (s.2.1 0)) (nI p) (nI N) (nI (k + 1)) := by
      show G_X5_caughtBehind_2 (F_X5_caughtBehind_2 n) s (nI p) (nI N) (nI k) = _
      unfold G_X5_caughtBehind_2 F_X5_caughtBehind_20
      rw [if_neg (show ¬ nI N ≤ nI k from fun z => absurd ((nI_leI (by omega) (by omega)).mp z) (by omega)), zm_isFree rfl (by omega), Option.bind_some, if_pos hf, if_neg z10, e6, Option.bind_some, nI_1]
    have h5 : bt (zps (s.2.1 0) 5) p = if zwho (s.2.1 0) = nI p then true else false := by
      rw [zps_5]
      rcases zwho_is (s.2.1 0) with e | ⟨q, hq, e, -⟩
      · rw [e, if_pos rfl, if_neg (fun z => zne4 (show p < 2 ^ 31 by omega) z.symm), hf]
      · rw [e, if_neg (zne4 (by omega)), zb_or _ (show q < 32 by omega) (show p < 32 by omega), hf, Bool.false_or]
        by_cases z : p = q
        · rw [z, if_pos rfl]; exact decide_eq_true rfl
        · rw [if_neg (fun y => z ((nI_eq (by omega) (by omega)).mp y).symm)]; exact decide_eq_false z
    rw [s1, s2]
    by_cases e : zwho (s.2.1 0) = nI p
    · rw [if_pos e] at h5 ⊢
      obtain ⟨n, rfl⟩ : ∃ m, n = m + 1 := ⟨n - 1, by omega⟩
      obtain ⟨u, b1, b2⟩ := zm_backs (zgo s (s.2.1 0))
      refine ⟨k + 1, c', nI (k + 1), bb_sA (zgo s (s.2.1 0)) 0 u, rfl, ?_, (ZFr.go s (s.2.1 0)).trans (ZFr.s0 _ _), rfl, b2, by omega, Or.inr ⟨by omega, rfl⟩⟩
      show G_X5_caughtBehind_2 (F_X5_caughtBehind_2 n) (zgo s (s.2.1 0)) (nI p) (nI N) (nI (k + 1)) = _
      unfold G_X5_caughtBehind_2 F_X5_caughtBehind_26 F_X5_caughtBehind_40
      rw [zm_isFree (w := zps (s.2.1 0)) rfl (by omega), Option.bind_some, h5, if_neg (show ¬ true = false by decide), Option.bind_some, if_pos rfl, if_pos rfl, b1, Option.bind_some]
      by_cases q : nI N ≤ nI (k + 1)
      · rw [if_pos q]
      · rw [if_neg q]
    · rw [if_neg e] at h5 ⊢
      obtain ⟨j, c2, r, s', q1, q2, q3, q4, q5, q6, q7⟩ := ih n (k + 1) c' (zgo s (s.2.1 0)) e5 (zps_ZI hi) (by rw [show (zgo s (s.2.1 0)).2.1 0 = zps (s.2.1 0) from rfl, g2]; exact hp) h5 (by omega) (by omega)
      exact ⟨j, c2, r, s', q1, q2, (ZFr.go s (s.2.1 0)).trans q3, q4, q5, by omega, q7⟩
/-! ===== stand ===== -/
theorem q_staL {σ0 : bb_H} {μ : bb_O} (h : ZR σ0 μ) {p : Nat} (hp : p < gN (μ.2.1 0) 2) (hf : bt (μ.2.1 0 5) p = false) (y : Int32) : ∀ (m n k : Nat) (σ : bb_H) (s : bb_O) (a b : Int32) (L : Nat), ZJ σ0 μ σ s → (a = b ∨ (k = 0 ∧ L = 0)) → L ≤ 61 → k + m = gN (μ.2.1 0) 0 * gN (μ.2.1 0) 1 → m < n → ZO (F_X4_stand_41 n σ (nI p) y a (nI L) (nI k)) (F_X5_stand_44 n s (nI p) y b (nI L) (nI k)) := by
  have hcl := h.1.2.1.cells
  have hp6 := h.1.2.1.2.2.1.2
  have hc4 : 0 < gN (μ.2.1 0) 0 * gN (μ.2.1 0) 1 := Nat.mul_pos (by have := h.1.2.1.1.2.1; omega) (by have := h.1.2.1.2.1.2.1; omega)
  intro m
  induction m with
  | zero =>
    intro n k σ s a b L hj hab hL h1 h2
    obtain ⟨n, rfl⟩ : ∃ m, n = m + 1 := ⟨n - 1, by omega⟩
    obtain ⟨k1, k2⟩ := zcells2 h hj
    obtain rfl : a = b := by
      rcases hab with e | ⟨e, -⟩
      · exact e
      · omega
    show ZO (G_X4_stand_41 (F_X4_stand_41 n) σ (nI p) y a (nI L) (nI k)) (G_X5_stand_44 (F_X5_stand_44 n) s (nI p) y a (nI L) (nI k))
    unfold G_X4_stand_41 G_X5_stand_44 F_X4_stand_117 F_X5_stand_123
    rw [k1, k2, Option.bind_some, Option.bind_some, if_pos (nI_le (by omega) (by omega)), if_pos (nI_le (by omega) (by omega))]
    by_cases e : y = 0
    · rw [if_pos e, if_pos e]
      exact ZO.one (hj.zr h) _
    · rw [if_neg e, if_neg e]
      exact ZO.one (hj.zr h) _
  | succ m ih =>
    intro n k σ s a b L hj hab hL h1 h2
    obtain ⟨n, rfl⟩ : ∃ m, n = m + 1 := ⟨n - 1, by omega⟩
    obtain ⟨k1, k2⟩ := zcells2 h hj
    have hr := hj.zr h
    obtain ⟨hc, hi, -⟩ := hr.1
    have g0 : gN (s.2.1 0) 0 = gN (μ.2.1 0) 0 := by unfold gN; rw [hj.2.2.1 0 (by omega)]
    have g1 : gN (s.2.1 0) 1 = gN (μ.2.1 0) 1 := by unfold gN; rw [hj.2.2.1 1 (by omega)]
    have g2 : gN (s.2.1 0) 2 = gN (μ.2.1 0) 2 := by unfold gN; rw [hj.2.2.1 2 (by omega)]
    obtain ⟨t, f1, f2⟩ := zc_take (t := σ 2) hc
    have hi2 : ZI (upd (s.2.1 0) (10 + 5 * p) (nI k)) := ZI_set1 hi p (by rw [g0, g1]; omega)
    have e5 : (upd (s.2.1 0) (10 + 5 * p) (nI k)) 5 = μ.2.1 0 5 := (zu_n _ _ (by omega)).trans (hj.2.2.1 5 (by omega))
    obtain ⟨j, c', r, s', q1, q2, q3, q4, q5, q6, q7⟩ := zbehind (p := p) (N := 60) (by omega) 60 bb_N 0 (bb_sA t 10 (upd (t.2.1 10) p (nI k))) (bb_sA s 0 (upd (s.2.1 0) (10 + 5 * p) (nI k))) (RC_sA10 f2 (by omega) _) hi2 (by rw [show gN ((bb_sA s 0 (upd (s.2.1 0) (10 + 5 * p) (nI k))).2.1 0) 2 = gN (s.2.1 0) 2 from zg_n _ _ (by omega), g2]; exact hp) (by rw [show (bb_sA s 0 (upd (s.2.1 0) (10 + 5 * p) (nI k))).2.1 0 5 = μ.2.1 0 5 from e5]; exact hf) (by omega) (by decide)
    obtain ⟨rfl, hj61⟩ : r = nI j ∧ j ≤ 61 := by
      rcases q7 with ⟨a, b⟩ | ⟨a, b⟩
      · subst a; exact ⟨b, by omega⟩
      · exact ⟨b, by omega⟩
    have hj' : ZJ σ0 μ (va_up (va_up (va_up (va_up σ 2 t) 0 (σ 0)) 2 (bb_sA t 10 (upd (t.2.1 10) p (nI k)))) 2 c') s' := ⟨fun i hi => (zσ22 σ t _ c' i hi).trans (hj.1 i hi), (hj.2.1.trans (ZFr.s0 s _)).trans q3, fun i hi => (q5 i hi).trans (hj.2.2.2 i hi), fun i hi => by rw [q4]; exact hj.2.2.2 i hi⟩
    have hn : ¬ nI (gN (μ.2.1 0) 0 * gN (μ.2.1 0) 1) ≤ nI k := fun z => absurd ((nI_leI (by omega) (by omega)).mp z) (by omega)
    have ei : (9 : Int32) + 5 * nI p + 1 = nI (10 + 5 * p) := by rw [fa_lit 9, fa_lit 5, pk_mul, nI_add, nI_1]; congr 1; omega
    show ZO (G_X4_stand_41 (F_X4_stand_41 n) σ (nI p) y a (nI L) (nI k)) (G_X5_stand_44 (F_X5_stand_44 n) s (nI p) y b (nI L) (nI k))
    unfold G_X4_stand_41 G_X5_stand_44 F_X4_stand_75 F_X5_stand_68 F_X0_behindHowMany_0 F_X5_caughtBehind_0
    rw [k1, k2, Option.bind_some, Option.bind_some, if_neg hn, if_neg hn, f1, Option.bind_some, bb_g_pos (vp_in_nI (by omega) (by omega)), ei, bb_g_pos (vp_in_nI (by omega) (by omega)), nI_clamp (n := p) (by omega), nI_clamp (n := 10 + 5 * p) (by omega)]
    rw [show (va_up (va_up (va_up σ 2 (t, σ 0).1) 0 (t, σ 0).2) 2 (bb_sA ((va_up (va_up σ 2 (t, σ 0).1) 0 (t, σ 0).2) 2) 10 (upd (((va_up (va_up σ 2 (t, σ 0).1) 0 (t, σ 0).2) 2).2.1 10) p (nI k)))) 2 = bb_sA t 10 (upd (t.2.1 10) p (nI k)) from rfl]
    rw [show F_X0_behindHowMany_2 bb_N (bb_sA t 10 (upd (t.2.1 10) p (nI k))) (nI p) 60 1 = some (nI j, c') from q1, show F_X5_caughtBehind_2 bb_N (bb_sA s 0 (upd (s.2.1 0) (10 + 5 * p) (nI k))) (nI p) 60 0 = some (nI j, s') from q2, Option.bind_some, Option.bind_some]
    unfold F_X4_stand_101 F_X5_stand_77 F_X5_stand_90 F_X5_stand_105
    by_cases e : j ≤ L
    · simp only [show nI j ≤ nI L from nI_le e (by omega), ↓reduceIte, nI_1]
      refine ih n (k + 1) _ _ a b L hj' (Or.inl ?_) hL (by omega) (by omega)
      rcases hab with z | ⟨-, z⟩
      · exact z
      · omega
    · simp only [show ¬ nI j ≤ nI L from fun z => e ((nI_leI (by omega) (by omega)).mp z), ↓reduceIte, nI_1]
      exact ih n (k + 1) _ _ _ _ j hj' (Or.inl rfl) hj61 (by omega) (by omega)
theorem q_stand {σ : bb_H} {μ : bb_O} (h : ZR σ μ) (x y : Int32) : ZO (F_X4_stand_0 σ x y) (F_X5_stand_0 μ x y) := by
  obtain ⟨hc, hi, -⟩ := h.1
  have hp6 := hi.2.2.1.2
  have hcl := hi.cells
  unfold F_X4_stand_0 F_X5_stand_0 F_X4_stand_17 F_X5_stand_18
  rcases zperson h x with ⟨p, hpp, rfl, e1, e2⟩ | ⟨e1, e2⟩
  · rcases zgd y 0 1 (l := 0) (h := 1) (by decide) (by decide) with ⟨h1, e3, e4⟩ | ⟨h1, e3, e4⟩
    · simp only [e1, e2, e3, e4, Option.bind_some, z10, ↓reduceIte, zc_isFree hc (show p < 32 by omega), zm_isFree (μ := μ) rfl (show p < 32 by omega)]
      by_cases q : bt (μ.2.1 0 5) p = false
      · rw [if_pos q, if_neg z10, if_neg z10]
        obtain ⟨u, f3, f4⟩ := zm_asides μ
        rw [f3, Option.bind_some]
        exact q_staL h hpp q y (gN (μ.2.1 0) 0 * gN (μ.2.1 0) 1) bb_N 0 σ (bb_sA μ 10 u) 0 (-4) 0 ⟨fun _ _ => rfl, ZFr.s10 μ u, fun _ _ => rfl, f4⟩ (Or.inr ⟨rfl, rfl⟩) (by omega) (by omega) (show _ < 200 by omega)
      · rw [if_neg q, if_pos rfl, if_pos rfl]
        exact ZO.one h _
    · simp only [e1, e2, e3, e4, Option.bind_some, z10, ↓reduceIte]
      exact ZO.one h _
  · simp only [e1, e2, Option.bind_some, z10, ↓reduceIte]
    exact ZO.one h _
/-! ===== hush ===== -/
theorem q_husL {σ0 : bb_H} {μ : bb_O} (h : ZR σ0 μ) {p N : Nat} (hp : p < gN (μ.2.1 0) 2) (hf : bt (μ.2.1 0 5) p = false) (h1N : 1 ≤ N) (hN : N ≤ 60) : ∀ (m n k : Nat) (σ : bb_H) (s : bb_O), ZJ σ0 μ σ s → k + m = gN (μ.2.1 0) (11 + 5 * p) + 1 → m < n → ZO (F_X4_hush_36 n σ (nI p) (nI N) (nI k)) (F_X5_hush_39 n s (nI p) (nI N) (nI k)) := by
  have hp6 := h.1.2.1.2.2.1.2
  have hno := (h.1.2.1.2.2.2.2 p hp).2.2.1
  intro m
  induction m with
  | zero =>
    intro n k σ s hj h1 h2
    obtain ⟨n, rfl⟩ : ∃ m, n = m + 1 := ⟨n - 1, by omega⟩
    have hr := hj.zr h
    obtain ⟨hc, hi, -⟩ := hr.1
    have en : s.2.1 0 (11 + 5 * p) = nI (gN (μ.2.1 0) (11 + 5 * p)) := (hj.2.2.1 _ (by omega)).trans hno.1
    have hlt : nI (gN (μ.2.1 0) (11 + 5 * p)) < nI k := nI_lt (by omega) (by omega)
    show ZO (G_X4_hush_36 (F_X4_hush_36 n) σ (nI p) (nI N) (nI k)) (G_X5_hush_39 (F_X5_hush_39 n) s (nI p) (nI N) (nI k))
    unfold G_X4_hush_36 G_X5_hush_39
    rw [bb_g_pos (vp_in_nI (by omega) (by omega)), nI_clamp (n := p) (by omega), (hc.2 p (by omega)).2.2.1, en, if_pos hlt, show F_X5_told_0 s (nI p) 2 = some (s.2.1 0 (9 + 5 * p + 2)) from zm_told (j := 2) rfl (by omega) (by omega), Option.bind_some, show 9 + 5 * p + 2 = 11 + 5 * p by omega, en, if_pos hlt]
    exact ZO.one hr _
  | succ m ih =>
    intro n k σ s hj h1 h2
    obtain ⟨n, rfl⟩ : ∃ m, n = m + 1 := ⟨n - 1, by omega⟩
    have hr := hj.zr h
    obtain ⟨hc, hi, -⟩ := hr.1
    have g2 : gN (s.2.1 0) 2 = gN (μ.2.1 0) 2 := by unfold gN; rw [hj.2.2.1 2 (by omega)]
    have en : s.2.1 0 (11 + 5 * p) = nI (gN (μ.2.1 0) (11 + 5 * p)) := (hj.2.2.1 _ (by omega)).trans hno.1
    have hlt : ¬ nI (gN (μ.2.1 0) (11 + 5 * p)) < nI k := fun z => absurd ((nI_ltI (by omega) (by omega)).mp z) (by omega)
    obtain ⟨t, f1, f2⟩ := zc_take (t := σ 2) hc
    have et : t.2.1 11 p = nI (gN (μ.2.1 0) (11 + 5 * p)) := (f2.2 p (by omega)).2.2.1.trans en
    have hi2 : ZI (upd (s.2.1 0) (11 + 5 * p) (nI (gN (μ.2.1 0) (11 + 5 * p) - k))) := ZI_set2 hi p (by omega)
    have e5 : (upd (s.2.1 0) (11 + 5 * p) (nI (gN (μ.2.1 0) (11 + 5 * p) - k))) 5 = μ.2.1 0 5 := (zu_n _ _ (by omega)).trans (hj.2.2.1 5 (by omega))
    obtain ⟨j, c', r, s', q1, q2, q3, q4, q5, q6, q7⟩ := zbehind (p := p) (N := N) hN N bb_N 0 (bb_sA t 11 (upd (t.2.1 11) p (nI (gN (μ.2.1 0) (11 + 5 * p) - k)))) (bb_sA s 0 (upd (s.2.1 0) (11 + 5 * p) (nI (gN (μ.2.1 0) (11 + 5 * p) - k)))) (RC_sA11 f2 (by omega) _) hi2 (by rw [show gN ((bb_sA s 0 (upd (s.2.1 0) (11 + 5 * p) (nI (gN (μ.2.1 0) (11 + 5 * p) - k)))).2.1 0) 2 = gN (s.2.1 0) 2 from zg_n _ _ (by omega), g2]; exact hp) (by rw [show (bb_sA s 0 (upd (s.2.1 0) (11 + 5 * p) (nI (gN (μ.2.1 0) (11 + 5 * p) - k)))).2.1 0 5 = μ.2.1 0 5 from e5]; exact hf) (by omega) (show N < 200 by omega)
    have hj' : ZJ σ0 μ (va_up (va_up (va_up (va_up σ 2 t) 0 (σ 0)) 2 (bb_sA t 11 (upd (t.2.1 11) p (nI (gN (μ.2.1 0) (11 + 5 * p) - k))))) 2 c') s' := ⟨fun i hi => (zσ22 σ t _ c' i hi).trans (hj.1 i hi), (hj.2.1.trans (ZFr.s0 s _)).trans q3, fun i hi => (q5 i hi).trans (hj.2.2.2 i hi), fun i hi => by rw [q4]; exact hj.2.2.2 i hi⟩
    have ei : (9 : Int32) + 5 * nI p + 2 = nI (11 + 5 * p) := by rw [fa_lit 9, fa_lit 5, fa_lit 2, pk_mul, nI_add, nI_add]; congr 1; omega
    show ZO (G_X4_hush_36 (F_X4_hush_36 n) σ (nI p) (nI N) (nI k)) (G_X5_hush_39 (F_X5_hush_39 n) s (nI p) (nI N) (nI k))
    unfold G_X4_hush_36 G_X5_hush_39 F_X4_hush_73 F_X5_hush_66 F_X0_behindHowMany_0 F_X5_caughtBehind_0
    rw [bb_g_pos (vp_in_nI (by omega) (by omega)), nI_clamp (n := p) (by omega), (hc.2 p (by omega)).2.2.1, en, if_neg hlt, show F_X5_told_0 s (nI p) 2 = some (s.2.1 0 (9 + 5 * p + 2)) from zm_told (j := 2) rfl (by omega) (by omega), Option.bind_some, show 9 + 5 * p + 2 = 11 + 5 * p by omega, en, if_neg hlt, f1, Option.bind_some, bb_g_pos (vp_in_nI (by omega) (by omega)), bb_g_pos (vp_in_nI (by omega) (by omega)), ei, bb_g_pos (vp_in_nI (by omega) (by omega)), bb_g_pos (vp_in_nI (by omega) (by omega)), nI_clamp (n := 11 + 5 * p) (by omega), en]
    rw [show (va_up (va_up σ 2 (t, σ 0).1) 0 (t, σ 0).2) 2 = t from rfl, et, zs_le (by omega)]
    rw [show (va_up (va_up (va_up σ 2 (t, σ 0).1) 0 (t, σ 0).2) 2 (bb_sA t 11 (upd (t.2.1 11) p (nI (gN (μ.2.1 0) (11 + 5 * p) - k))))) 2 = bb_sA t 11 (upd (t.2.1 11) p (nI (gN (μ.2.1 0) (11 + 5 * p) - k))) from rfl]
    rw [show F_X0_behindHowMany_2 bb_N (bb_sA t 11 (upd (t.2.1 11) p (nI (gN (μ.2.1 0) (11 + 5 * p) - k)))) (nI p) (nI N) 1 = some (nI j, c') from q1, show F_X5_caughtBehind_2 bb_N (bb_sA s 0 (upd (s.2.1 0) (11 + 5 * p) (nI (gN (μ.2.1 0) (11 + 5 * p) - k)))) (nI p) (nI N) 0 = some (r, s') from q2, Option.bind_some, Option.bind_some]
    unfold F_X5_hush_77 F_X5_hush_79
    rcases q7 with ⟨rfl, rfl⟩ | ⟨q7, rfl⟩
    · rw [if_neg (show ¬ nI (N + 1) ≤ nI N from fun z => absurd ((nI_leI (by omega) (by omega)).mp z) (by omega)), if_pos rfl]
      exact ⟨nI k, _, s', rfl, rfl, hj'.zr h⟩
    · rw [if_pos (show nI j ≤ nI N from nI_le q7 (by omega)), if_neg (show ¬ nI j = (61 : Int32) from fun z => absurd ((nI_eq (a := j) (b := 61) (by omega) (by decide)).mp z) (by omega)), nI_1]
      exact ih n (k + 1) _ _ hj' (by omega) (by omega)
theorem q_hush {σ : bb_H} {μ : bb_O} (h : ZR σ μ) (x y : Int32) : ZO (F_X4_hush_0 σ x y) (F_X5_hush_0 μ x y) := by
  obtain ⟨hc, hi, -⟩ := h.1
  have hp6 := hi.2.2.1.2
  unfold F_X4_hush_0 F_X5_hush_0 F_X4_hush_18 F_X5_hush_20
  rcases zperson h x with ⟨p, hpp, rfl, e1, e2⟩ | ⟨e1, e2⟩
  · rcases zgd y 1 60 (l := 1) (h := 60) (by decide) (by decide) with ⟨h1, e3, e4⟩ | ⟨h1, e3, e4⟩
    · simp only [e1, e2, e3, e4, Option.bind_some, z10, ↓reduceIte, zc_isFree hc (show p < 32 by omega), zm_isFree (μ := μ) rfl (show p < 32 by omega)]
      obtain ⟨N, hN0, hN, rfl⟩ := zrg (lo := 1) (hi := 60) (by decide) (by decide) h1
      by_cases q : bt (μ.2.1 0 5) p = false
      · rw [if_pos q, if_neg z10, if_neg z10]
        obtain ⟨u, f3, f4⟩ := zm_asides μ
        rw [f3, Option.bind_some]
        have hno := (hi.2.2.2.2 p hpp).2.2.1
        exact q_husL h hpp q hN0 hN (gN (μ.2.1 0) (11 + 5 * p) + 1) bb_N 0 σ (bb_sA μ 10 u) ⟨fun _ _ => rfl, ZFr.s10 μ u, fun _ _ => rfl, f4⟩ (by omega) (show _ < 200 by omega)
      · rw [if_neg q, if_pos rfl, if_pos rfl]
        exact ZO.one h _
    · simp only [e1, e2, e3, e4, Option.bind_some, z10, ↓reduceIte]
      exact ZO.one h _
  · simp only [e1, e2, Option.bind_some, z10, ↓reduceIte]
    exact ZO.one h _
