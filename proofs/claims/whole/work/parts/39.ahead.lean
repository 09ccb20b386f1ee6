/-! ===== aside and back ===== -/
theorem RC.cong {c : bb_O} {w v : Nat → Int32} (h : RC c w) (q : ∀ i, i < 39 → v i = w i) : RC c v := by
  obtain ⟨⟨a0, a1, a2, a3, a4, a5, a6, a7, a8⟩, hp⟩ := h
  refine ⟨⟨?_, ?_, ?_, ?_, ?_, ?_, ?_, ?_, ?_⟩, fun p h => ?_⟩
  all_goals try (rw [q _ (by omega)]; assumption)
  rw [q _ (by omega), q _ (by omega), q _ (by omega), q _ (by omega), q _ (by omega)]
  exact hp p h
theorem ZI.cong {w v : Nat → Int32} (h : ZI w) (q : ∀ i, i < 39 → v i = w i) : ZI v := by
  have g : ∀ i, i < 39 → gN v i = gN w i := fun i hi => by unfold gN; rw [q i hi]
  have hp6 := h.2.2.1.2
  obtain ⟨a0, a1, a2, a3, a4⟩ := h
  refine ⟨?_, ?_, ?_, ?_, fun p hp => ?_⟩
  · rw [q _ (by omega), g _ (by omega)]; exact a0
  · rw [q _ (by omega), g _ (by omega)]; exact a1
  · rw [q _ (by omega), g _ (by omega)]; exact a2
  · rw [q _ (by omega), g 3 (by omega), g 0 (by omega), g 1 (by omega)]; exact a3
  · rw [g 2 (by omega)] at hp
    rw [q (9 + 5 * p) (by omega), q (10 + 5 * p) (by omega), q (11 + 5 * p) (by omega), q (12 + 5 * p) (by omega), q (13 + 5 * p) (by omega), g (9 + 5 * p) (by omega), g (10 + 5 * p) (by omega), g (11 + 5 * p) (by omega), g (12 + 5 * p) (by omega), g (13 + 5 * p) (by omega), g 0 (by omega), g 1 (by omega)]
    exact a4 p hp
def ZFr (μ s : bb_O) : Prop := (s.1 4 = μ.1 4 ∧ s.1 9 = μ.1 9 ∧ s.1 12 = μ.1 12 ∧ s.1 13 = μ.1 13) ∧ (∀ k, k ≠ 0 → k ≠ 10 → s.2.1 k = μ.2.1 k) ∧ s.2.2 = μ.2.2
theorem ZFr.refl (μ : bb_O) : ZFr μ μ := ⟨⟨rfl, rfl, rfl, rfl⟩, fun _ _ _ => rfl, rfl⟩
theorem ZFr.trans {a b c : bb_O} (h : ZFr a b) (g : ZFr b c) : ZFr a c := ⟨⟨g.1.1.trans h.1.1, g.1.2.1.trans h.1.2.1, g.1.2.2.1.trans h.1.2.2.1, g.1.2.2.2.trans h.1.2.2.2⟩, fun k h0 h1 => (g.2.1 k h0 h1).trans (h.2.1 k h0 h1), g.2.2.trans h.2.2⟩
theorem ZFr.s0 (μ : bb_O) (u : Nat → Int32) : ZFr μ (bb_sA μ 0 u) := ⟨⟨rfl, rfl, rfl, rfl⟩, fun _ h _ => va_up_ne _ _ h, rfl⟩
theorem ZFr.s10 (μ : bb_O) (u : Nat → Int32) : ZFr μ (bb_sA μ 10 u) := ⟨⟨rfl, rfl, rfl, rfl⟩, fun _ _ h => va_up_ne _ _ h, rfl⟩
theorem ZFr.go (μ : bb_O) (w : Nat → Int32) : ZFr μ (zgo μ w) := ⟨⟨rfl, rfl, rfl, rfl⟩, fun _ h _ => va_up_ne _ _ h, rfl⟩
theorem ZR_fr {σ σ' : bb_H} {μ s : bb_O} (h : ZR σ μ) (hσ : ∀ k, k ≠ 2 → σ' k = σ k) (f : ZFr μ s) (hw : ∀ i, i < 39 → s.2.1 0 i = μ.2.1 0 i) : ZR σ' s := by
  obtain ⟨⟨f1, f2, f3, f4⟩, f5, f6⟩ := f
  have g : ∀ i, i < 39 → gN (s.2.1 0) i = gN (μ.2.1 0) i := fun i hi => by unfold gN; rw [hw i hi]
  refine ⟨⟨?_, ?_, ?_⟩, ?_, ?_, ?_⟩
  · rw [hσ 0 (by omega)]; exact h.1.1.cong hw
  · exact h.1.2.1.cong hw
  · rw [hσ 1 (by omega), f5 8 (by omega) (by omega), f2]
    exact h.1.2.2.w (g 0 (by omega)) (g 1 (by omega)) (g 2 (by omega))
  · rw [hσ 3 (by omega), hσ 4 (by omega), hσ 5 (by omega), f5 11 (by omega) (by omega), f3, f4]; exact h.2.1
  · rw [hσ 6 (by omega), f5 3 (by omega) (by omega), f1]; exact h.2.2.1
  · rw [hσ 7 (by omega), hσ 8 (by omega), hσ 9 (by omega), hσ 10 (by omega), f5 14 (by omega) (by omega), f5 15 (by omega) (by omega), f6]; exact h.2.2.2
theorem zm_asL : ∀ (m n k : Nat) (s : bb_O), k + m = 39 → m < n → (∀ i, i < k → s.2.1 10 i = s.2.1 0 i) → ∃ u, F_X5_asides_2 n s (nI k) = some (bb_sA s 10 u) ∧ ∀ i, i < 39 → u i = s.2.1 0 i := by
  intro m
  induction m with
  | zero =>
    intro n k s h1 h2 h3
    obtain ⟨n, rfl⟩ : ∃ m, n = m + 1 := ⟨n - 1, by omega⟩
    obtain rfl : k = 39 := by omega
    refine ⟨s.2.1 10, ?_, h3⟩
    show G_X5_asides_2 (F_X5_asides_2 n) s (nI 39) = _
    unfold G_X5_asides_2
    rw [if_pos (by decide), zsA_same]
  | succ m ih =>
    intro n k s h1 h2 h3
    obtain ⟨n, rfl⟩ : ∃ m, n = m + 1 := ⟨n - 1, by omega⟩
    obtain ⟨u, q1, q2⟩ := ih n (k + 1) (bb_sA s 10 (upd (s.2.1 10) k (s.2.1 0 k))) (by omega) (by omega) (fun i hi => by
      show upd (s.2.1 10) k (s.2.1 0 k) i = s.2.1 0 i
      by_cases e : i = k
      · rw [e, zu_s]
      · rw [zu_n _ _ e]; exact h3 i (by omega))
    refine ⟨u, ?_, q2⟩
    show G_X5_asides_2 (F_X5_asides_2 n) s (nI k) = _
    unfold G_X5_asides_2 F_X5_asides_20
    rw [if_neg (show ¬ (39 : Int32) ≤ nI k from fun z => absurd ((nI_leI (a := 39) (b := k) (by decide) (by omega)).mp z) (by omega)), bb_g_pos (vp_in_nI (by omega) (by omega)), bb_g_pos (vp_in_nI (by omega) (by omega)), nI_clamp (by omega), nI_1, q1, zsA2]
theorem zm_asides (μ : bb_O) : ∃ u, F_X5_asides_0 μ = some (bb_sA μ 10 u) ∧ ∀ i, i < 39 → u i = μ.2.1 0 i := zm_asL 39 bb_N 0 μ (by omega) (by decide) (fun i hi => by omega)
theorem zm_bkL : ∀ (m n k : Nat) (s : bb_O), k + m = 39 → m < n → (∀ i, i < k → s.2.1 0 i = s.2.1 10 i) → ∃ u, F_X5_backs_2 n s (nI k) = some (bb_sA s 0 u) ∧ ∀ i, i < 39 → u i = s.2.1 10 i := by
  intro m
  induction m with
  | zero =>
    intro n k s h1 h2 h3
    obtain ⟨n, rfl⟩ : ∃ m, n = m + 1 := ⟨n - 1, by omega⟩
    obtain rfl : k = 39 := by omega
    refine ⟨s.2.1 0, ?_, h3⟩
    show G_X5_backs_2 (F_X5_backs_2 n) s (nI 39) = _
    unfold G_X5_backs_2
    rw [if_pos (by decide), zsA_same]
  | succ m ih =>
    intro n k s h1 h2 h3
    obtain ⟨n, rfl⟩ : ∃ m, n = m + 1 := ⟨n - 1, by omega⟩
    obtain ⟨u, q1, q2⟩ := ih n (k + 1) (bb_sA s 0 (upd (s.2.1 0) k (s.2.1 10 k))) (by omega) (by omega) (fun i hi => by
      show upd (s.2.1 0) k (s.2.1 10 k) i = s.2.1 10 i
      by_cases e : i = k
      · rw [e, zu_s]
      · rw [zu_n _ _ e]; exact h3 i (by omega))
    refine ⟨u, ?_, q2⟩
    show G_X5_backs_2 (F_X5_backs_2 n) s (nI k) = _
    unfold G_X5_backs_2 F_X5_backs_20
    rw [if_neg (show ¬ (39 : Int32) ≤ nI k from fun z => absurd ((nI_leI (a := 39) (b := k) (by decide) (by omega)).mp z) (by omega)), bb_g_pos (vp_in_nI (by omega) (by omega)), bb_g_pos (vp_in_nI (by omega) (by omega)), nI_clamp (by omega), nI_1, q1, zsA2]
theorem zm_backs (μ : bb_O) : ∃ u, F_X5_backs_0 μ = some (bb_sA μ 0 u) ∧ ∀ i, i < 39 → u i = μ.2.1 10 i := zm_bkL 39 bb_N 0 μ (by omega) (by decide) (fun i hi => by omega)
theorem zcpy6 {f g : Nat → Int32} {p : Nat} (hp : p < 6) : va_cpy f g 0 0 6 p = f p := by
  show (if 0 ≤ p ∧ p < 0 + 6 then f (0 + (p - 0)) else g p) = f p
  rw [if_pos (by omega), Nat.zero_add, Nat.sub_zero]
theorem zc_take {c t : bb_O} {w : Nat → Int32} (h : RC c w) : ∃ t', F_X0_take_0 t c = some (t', c) ∧ RC t' w := by
  refine ⟨_, rfl, ⟨h.1.1, h.1.2.1, h.1.2.2.1, h.1.2.2.2.1, h.1.2.2.2.2.1, h.1.2.2.2.2.2.1, h.1.2.2.2.2.2.2.1, h.1.2.2.2.2.2.2.2.1, h.1.2.2.2.2.2.2.2.2⟩, fun p hp => ?_⟩
  obtain ⟨b0, b1, b2, b3, b4⟩ := h.2 p hp
  refine ⟨?_, ?_, ?_, ?_, ?_⟩
  · show va_cpy _ _ 0 0 6 p = _
    rw [zcpy6 hp]; exact b0
  · show va_cpy _ _ 0 0 6 p = _
    rw [zcpy6 hp]; exact b1
  · show va_cpy _ _ 0 0 6 p = _
    rw [zcpy6 hp]; exact b2
  · show va_cpy _ _ 0 0 6 p = _
    rw [zcpy6 hp]; exact b3
  · show va_cpy _ _ 0 0 6 p = _
    rw [zcpy6 hp]; exact b4
/-! ===== ahead ===== -/
theorem q_aheL {N y : Nat} (hN : N ≤ 60) (hy : y ≤ 3) : ∀ (m n k : Nat) (σ : bb_H) (s : bb_O), RC (σ 2) (s.2.1 0) → ZI (s.2.1 0) → k + m = N → m < n → ∃ r σ' s', F_X4_ahead_34 n σ (nI N) (nI y) (nI k) = some (r, σ') ∧ F_X5_ahead_32 n s (nI N) (nI y) (nI k) = some (r, s') ∧ (∀ k, k ≠ 2 → σ' k = σ k) ∧ ZFr s s' ∧ ∀ i, i < 39 → s'.2.1 0 i = s.2.1 10 i := by
  intro m
  induction m with
  | zero =>
    intro n k σ s hc hi h1 h2
    obtain ⟨n, rfl⟩ : ∃ m, n = m + 1 := ⟨n - 1, by omega⟩
    obtain rfl : k = N := by omega
    obtain ⟨u, b1, b2⟩ := zm_backs s
    have a1 : F_X4_ahead_34 (n + 1) σ (nI k) (nI y) (nI k) = some (if y = 0 then s.2.1 0 3 else s.2.1 0 (4 + y), σ) := by
      show G_X4_ahead_34 (F_X4_ahead_34 n) σ (nI k) (nI y) (nI k) = _
      unfold G_X4_ahead_34
      rw [if_pos (nI_le (by omega) (by omega))]
      match y, hy with
      | 0, _ => exact congrArg (fun z => some (z, σ)) hc.1.2.2.2.1
      | 1, _ => exact congrArg (fun z => some (z, σ)) hc.1.2.2.2.2.1
      | 2, _ => exact congrArg (fun z => some (z, σ)) hc.1.2.2.2.2.2.2.1
      | 3, _ => exact congrArg (fun z => some (z, σ)) hc.1.2.2.2.2.2.2.2.1
    have a2 : F_X5_ahead_32 (n + 1) s (nI k) (nI y) (nI k) = some (if y = 0 then s.2.1 0 3 else s.2.1 0 (4 + y), bb_sA s 0 u) := by
      show G_X5_ahead_32 (F_X5_ahead_32 n) s (nI k) (nI y) (nI k) = _
      unfold G_X5_ahead_32 F_X5_ahead_71
      rw [if_pos (nI_le (by omega) (by omega)), b1, Option.bind_some]
      by_cases e : y = 0
      · subst e
        rfl
      · rw [if_neg (show ¬ nI y = 0 from fun z => e ((nI_eq (a := y) (b := 0) (by omega) (by decide)).mp z)), show (5 : Int32) + nI y - 1 = nI (4 + y) by rw [fa_lit 5, nI_add, show 5 + y = 4 + y + 1 by omega, nI_pred], bb_g_pos (vp_in_nI (by omega) (by omega)), nI_clamp (by omega), if_neg e, Option.bind_some]
    exact ⟨_, σ, bb_sA s 0 u, a1, a2, fun _ _ => rfl, ZFr.s0 _ _, b2⟩
  | succ m ih =>
    intro n k σ s hc hi h1 h2
    obtain ⟨n, rfl⟩ : ∃ m, n = m + 1 := ⟨n - 1, by omega⟩
    obtain ⟨c', e4, e5⟩ := zc_pass hc hi
    have e6 := zm_goesBy (μ := s) (w := s.2.1 0) rfl hi
    obtain ⟨r, σ', s', q1, q2, q3, q4, q5⟩ := ih n (k + 1) (va_up σ 2 c') (zgo s (s.2.1 0)) e5 (zps_ZI hi) (by omega) (by omega)
    refine ⟨r, σ', s', ?_, ?_, fun k hk => by rw [q3 k hk, va_up_ne _ _ hk], (ZFr.go s (s.2.1 0)).trans q4, q5⟩
    · show G_X4_ahead_34 (F_X4_ahead_34 n) σ (nI N) (nI y) (nI k) = _
      unfold G_X4_ahead_34
      rw [if_neg (show ¬ nI N ≤ nI k from fun z => absurd ((nI_leI (a := N) (b := k) (by omega) (by omega)).mp z) (by omega)), e4, Option.bind_some, nI_1, q1]
    · show G_X5_ahead_32 (F_X5_ahead_32 n) s (nI N) (nI y) (nI k) = _
      unfold G_X5_ahead_32 F_X5_ahead_42
      rw [if_neg (show ¬ nI N ≤ nI k from fun z => absurd ((nI_leI (a := N) (b := k) (by omega) (by omega)).mp z) (by omega)), e6, Option.bind_some, nI_1, q2]
theorem zσ2 (σ : bb_H) (t : bb_O) : ∀ k, k ≠ 2 → va_up (va_up σ 2 t) 0 (σ 0) k = σ k := fun k hk => by
  by_cases e : k = 0
  · subst e
    rfl
  · rw [va_up_ne _ _ e, va_up_ne _ _ hk]
theorem q_ahead {σ : bb_H} {μ : bb_O} (h : ZR σ μ) (x y : Int32) : ZO (F_X4_ahead_0 σ x y) (F_X5_ahead_0 μ x y) := by
  obtain ⟨hc, hi, -⟩ := h.1
  unfold F_X4_ahead_0 F_X5_ahead_0 F_X4_ahead_19 F_X5_ahead_24
  rcases zgd x 0 60 (l := 0) (h := 60) (by decide) (by decide) with ⟨h1, e1, e2⟩ | ⟨h1, e1, e2⟩
  · rcases zgd y 0 3 (l := 0) (h := 3) (by decide) (by decide) with ⟨h2, e3, e4⟩ | ⟨h2, e3, e4⟩
    · simp only [e1, e2, e3, e4, Option.bind_some, z10, ↓reduceIte]
      obtain ⟨N, -, hN, rfl⟩ := zrg (lo := 0) (hi := 60) (by decide) (by decide) h1
      obtain ⟨d, -, hd, rfl⟩ := zrg (lo := 0) (hi := 3) (by decide) (by decide) h2
      obtain ⟨t, f1, f2⟩ := zc_take (t := σ 2) hc
      obtain ⟨u, f3, f4⟩ := zm_asides μ
      obtain ⟨r, σ', s', q1, q2, q3, q4, q5⟩ := q_aheL hN hd N bb_N 0 (va_up (va_up σ 2 t) 0 (σ 0)) (bb_sA μ 10 u) f2 hi (by omega) (show N < 200 by omega)
      rw [f1, f3, Option.bind_some, Option.bind_some]
      exact ⟨r, σ', s', q1, q2, ZR_fr h (fun k hk => (q3 k hk).trans (zσ2 σ t k hk)) ((ZFr.s10 μ u).trans q4) (fun i hi => (q5 i hi).trans (f4 i hi))⟩
    · simp only [e1, e2, e3, e4, Option.bind_some, z10, ↓reduceIte]
      exact ZO.one h _
  · simp only [e1, e2, Option.bind_some, z10, ↓reduceIte]
    exact ZO.one h _
/-! ===== who is caught next ===== -/
theorem zuntil : ∀ (m n k : Nat) (c s : bb_O), RC c (s.2.1 0) → ZI (s.2.1 0) → k + m = 60 → m < n → ∃ who c' r s', F_X0_passUntilCaught_5 n c (-4) (nI k) = some (who, c') ∧ F_X5_nextBehind_4 n s (nI k) 0 = some (r, s') ∧ ZFr s s' ∧ s'.2.1 10 = s.2.1 10 ∧ (∀ i, i < 39 → s'.2.1 0 i = s.2.1 10 i) ∧ ((who = -4 ∧ r = 61) ∨ ∃ j p, k < j ∧ j ≤ 60 ∧ p < gN (s.2.1 0) 2 ∧ who = nI p ∧ r = nI j ∧ s'.1 1 = who ∧ c'.1 5 + nI k = s.2.1 0 4 + nI j ∧ (F_X0_feel_0 c' who).bind (F_X0_namedBy_0 c') = some (s'.1 2)) := by
  intro m
  induction m with
  | zero =>
    intro n k c s hc hi h1 h2
    obtain ⟨n, rfl⟩ : ∃ m, n = m + 1 := ⟨n - 1, by omega⟩
    obtain rfl : k = 60 := by omega
    obtain ⟨u, b1, b2⟩ := zm_backs s
    refine ⟨-4, c, 61, bb_sA s 0 u, ?_, ?_, ZFr.s0 _ _, rfl, b2, Or.inl ⟨rfl, rfl⟩⟩
    · show G_X0_passUntilCaught_5 (F_X0_passUntilCaught_5 n) c (-4) (nI 60) = _
      unfold G_X0_passUntilCaught_5 F_X0_passUntilCaught_28
      rw [if_pos (by decide)]
    · show G_X5_nextBehind_4 (F_X5_nextBehind_4 n) s (nI 60) 0 = _
      unfold G_X5_nextBehind_4 F_X5_nextBehind_25 F_X5_nextBehind_39
      rw [if_pos (by decide), b1, Option.bind_some, if_pos rfl]
  | succ m ih =>
    intro n k c s hc hi h1 h2
    have hp6 := hi.2.2.1.2
    obtain ⟨n, rfl⟩ : ∃ m, n = m + 1 := ⟨n - 1, by omega⟩
    obtain ⟨c', e4, e5⟩ := zc_pass hc hi
    have e6 := zm_goesBy (μ := s) (w := s.2.1 0) rfl hi
    have hk : ¬ (60 : Int32) ≤ nI k := fun z => absurd ((nI_leI (a := 60) (b := k) (by decide) (by omega)).mp z) (by omega)
    have s1 : F_X0_passUntilCaught_5 (n + 1) c (-4) (nI k) = F_X0_passUntilCaught_5 n c' (zwho (s.2.1 0)) (nI (k + 1)) := by
      show G_X0_passUntilCaught_5 (F_X0_passUntilCaught_5 n) c (-4) (nI k) = _
      unfold G_X0_passUntilCaught_5
      rw [if_neg hk, if_pos rfl, e4, Option.bind_some, nI_1]
    have s2 : F_X5_nextBehind_4 (n + 1) s (nI k) 0 = F_X5_nextBehind_4 n (zgo s (s.2.1 0)) (nI (k + 1)) (if zwho (s.2.1 0) = -4 then 0 else 1) := by
      show G_X5_nextBehind_4 (F_X5_nextBehind_4 n) s (nI k) 0 = _
      unfold G_X5_nextBehind_4 F_X5_nextBehind_19
      rw [if_neg hk, if_pos rfl, e6, Option.bind_some, nI_1]
    rcases zwho_is (s.2.1 0) with e | ⟨p, hp, e, -⟩
    · rw [s1, s2, e, if_pos rfl]
      obtain ⟨who, c2, r, s', q1, q2, q3, q4, q5, q6⟩ := ih n (k + 1) c' (zgo s (s.2.1 0)) e5 (zps_ZI hi) (by omega) (by omega)
      refine ⟨who, c2, r, s', q1, q2, (ZFr.go s (s.2.1 0)).trans q3, q4, q5, ?_⟩
      rcases q6 with q6 | ⟨j, p, g1, g2, g3, g4, g5, g6, g7, g8⟩
      · exact Or.inl q6
      · refine Or.inr ⟨j, p, by omega, g2, ?_, g4, g5, g6, ?_, g8⟩
        · have : gN (zps (s.2.1 0)) 2 = gN (s.2.1 0) 2 := by unfold gN; rw [zps_hi _ (by omega)]
          exact this ▸ g3
        · have g9 : c2.1 5 + nI (k + 1) = zps (s.2.1 0) 4 + nI j := g7
          rw [zps_4, ← nI_1, ← Int32.add_assoc, Int32.add_assoc (s.2.1 0 4), Int32.add_comm 1, ← Int32.add_assoc] at g9
          exact (Int32.add_left_inj 1).mp g9
    · have ne := zne4 (show p < 2 ^ 31 by omega)
      rw [s1, s2, e, if_neg ne]
      obtain ⟨n, rfl⟩ : ∃ m, n = m + 1 := ⟨n - 1, by omega⟩
      obtain ⟨u, b1, b2⟩ := zm_backs (zgo s (s.2.1 0))
      have hi2 := zps_ZI hi
      have g2 : gN (zps (s.2.1 0)) 2 = gN (s.2.1 0) 2 := by unfold gN; rw [zps_hi _ (by omega)]
      refine ⟨nI p, c', nI (k + 1), bb_sA (zgo s (s.2.1 0)) 0 u, ?_, ?_, (ZFr.go s (s.2.1 0)).trans (ZFr.s0 _ _), rfl, b2, Or.inr ⟨k + 1, p, by omega, by omega, hp, rfl, rfl, e, ?_, ?_⟩⟩
      · show G_X0_passUntilCaught_5 (F_X0_passUntilCaught_5 n) c' (nI p) (nI (k + 1)) = _
        unfold G_X0_passUntilCaught_5 F_X0_passUntilCaught_28
        by_cases q : (60 : Int32) ≤ nI (k + 1)
        · rw [if_pos q]
        · rw [if_neg q, if_neg ne]
      · show G_X5_nextBehind_4 (F_X5_nextBehind_4 n) (zgo s (s.2.1 0)) (nI (k + 1)) 1 = _
        unfold G_X5_nextBehind_4 F_X5_nextBehind_25 F_X5_nextBehind_39
        rw [b1, Option.bind_some, if_neg z10]
        by_cases q : (60 : Int32) ≤ nI (k + 1)
        · rw [if_pos q]
        · rw [if_neg q, if_neg z10]
      · rw [e5.1.2.2.2.2.2.1, zps_4, ← nI_1, Int32.add_assoc, Int32.add_comm 1]
      · rw [zc_feel e5 hi2 (by omega), Option.bind_some, zc_named e5 hi2 ?_ (by omega)]
        · show _ = some (if zwho (s.2.1 0) = -4 then s.1 2 else znm (s.2.1 0))
          rw [e, if_neg ne]
          unfold znm
          rw [e, nI_clamp (by omega), znamed_cong (w := s.2.1 0) (fun i hi => zps_hi _ (by omega)) (zps_hi _ (by omega))]
          unfold gN
          rw [zps_hi _ (by omega), zps_hi _ (by omega)]
        · have b := hi2.2.2.2.2 p (by omega)
          exact zx64 b.2.2.2.1.2 b.2.2.2.2.2
