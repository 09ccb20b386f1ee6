/-! ===== within bounds ===== -/
theorem zo (x lo hi : Int32) : F_X4_outside_0 x lo hi = some (if lo ≤ x ∧ x ≤ hi then 0 else 1) := by
  unfold F_X4_outside_0 F_X4_outside_10 F_X4_outside_15
  rw [bb_g_pos bz1, bb_g_pos bz0]
  by_cases h : x < lo
  · rw [if_pos h, if_neg (fun q => absurd q.1 (Int32.not_le.mpr h))]
  · rw [if_neg h]
    by_cases h2 : x ≤ hi
    · rw [if_pos h2, if_pos ⟨Int32.not_lt.mp h, h2⟩]
    · rw [if_neg h2, if_neg (fun q => h2 q.2)]
theorem zcmp_lt (x y : Int64) : lg_cmp x y < 0 ↔ x < y := by
  unfold lg_cmp
  by_cases h : y < x
  · rw [if_pos h]
    exact ⟨fun q => absurd q (by decide), fun q => absurd (Int64.lt_trans q h) (Int64.lt_irrefl)⟩
  · rw [if_neg h]
    by_cases e : x = y
    · rw [if_pos e, e]
      exact ⟨fun q => absurd q (by decide), fun q => absurd q (Int64.lt_irrefl)⟩
    · rw [if_neg e]
      exact ⟨fun _ => by
        have h1 := Int64.not_lt.mp h
        exact Int64.lt_of_le_of_ne h1 e, fun _ => by decide⟩
theorem zcmp_gt (x y : Int64) : 0 < lg_cmp x y ↔ y < x := by
  unfold lg_cmp
  by_cases h : y < x
  · rw [if_pos h]
    exact ⟨fun _ => h, fun _ => by decide⟩
  · rw [if_neg h]
    by_cases e : x = y
    · rw [if_pos e]
      exact ⟨fun q => absurd q (by decide), fun q => absurd q h⟩
    · rw [if_neg e]
      exact ⟨fun q => absurd q (by decide), fun q => absurd q h⟩
theorem zcmp_eq (x y : Int64) : lg_cmp x y = 0 ↔ x = y := by
  unfold lg_cmp
  by_cases h : y < x
  · rw [if_pos h]
    exact ⟨fun q => absurd q (by decide), fun q => absurd h (by rw [q]; exact Int64.lt_irrefl)⟩
  · rw [if_neg h]
    by_cases e : x = y
    · rw [if_pos e]
      exact ⟨fun _ => e, fun _ => rfl⟩
    · rw [if_neg e]
      exact ⟨fun q => absurd q (by decide), fun q => absurd q e⟩
theorem zin (x lo hi : Int32) {l h : Int64} (hl : l = lo.toInt64) (hh : h = hi.toInt64) : F_X5_in_0 x.toInt64 l h = some (if lo ≤ x ∧ x ≤ hi then 1 else 0) := by
  subst hl
  subst hh
  unfold F_X5_in_0 F_X5_in_17 F_X5_in_18
  rw [bb_g_pos bz1, bb_g_pos bz0]
  by_cases h : x < lo
  · rw [if_pos ((zcmp_lt _ _).mpr ((fa_wide_lt _ _).mpr h)), if_neg (fun q => absurd q.1 (Int32.not_le.mpr h))]
  · rw [if_neg (fun q => h ((fa_wide_lt _ _).mp ((zcmp_lt _ _).mp q)))]
    by_cases h2 : hi < x
    · rw [if_pos ((zcmp_gt _ _).mpr ((fa_wide_lt _ _).mpr h2)), if_neg (fun q => absurd q.2 (Int32.not_le.mpr h2))]
    · rw [if_neg (fun q => h2 ((fa_wide_lt _ _).mp ((zcmp_gt _ _).mp q))), if_pos ⟨Int32.not_lt.mp h, Int32.not_lt.mp h2⟩]
theorem zrg {x : Int32} {lo hi : Nat} (hl : lo < 2 ^ 31) (hh : hi < 2 ^ 31) (h : nI lo ≤ x ∧ x ≤ nI hi) : ∃ k, lo ≤ k ∧ k ≤ hi ∧ x = nI k := by
  have a1 := (fa_le _ _).mp h.1
  have a2 := (fa_le _ _).mp h.2
  rw [nI_toInt hl] at a1
  rw [nI_toInt hh] at a2
  refine ⟨x.toInt.toNat, by omega, by omega, ?_⟩
  rw [fa_eq, nI_toInt (by omega)]
  omega
theorem z10 : ¬ (1 : Int32) = 0 := by decide
theorem zgd (x lo hi : Int32) {l h : Int64} (hl : l = lo.toInt64) (hh : h = hi.toInt64) : ((lo ≤ x ∧ x ≤ hi) ∧ F_X4_outside_0 x lo hi = some 0 ∧ F_X5_in_0 x.toInt64 l h = some 1) ∨ (¬ (lo ≤ x ∧ x ≤ hi) ∧ F_X4_outside_0 x lo hi = some 1 ∧ F_X5_in_0 x.toInt64 l h = some 0) := by
  by_cases q : lo ≤ x ∧ x ≤ hi
  · exact Or.inl ⟨q, by rw [zo, if_pos q], by rw [zin x lo hi hl hh, if_pos q]⟩
  · exact Or.inr ⟨q, by rw [zo, if_neg q], by rw [zin x lo hi hl hh, if_neg q]⟩
/-! ===== the relation of the two sides ===== -/
def ZE (e : Nat → Int32) (v : Nat → Int32) : Prop := e 6 = v 0 ∧ e 7 = v 2 ∧ e 8 = v 1 ∧ e 9 = v 3 ∧ e 10 = v 4 ∧ e 11 = v 5 ∧ ∀ p, p < 6 → e p = v (6 + p)
def ZV (v w : Nat → Int32) : Prop := (∃ K, K < gN w 0 * gN w 1 ∧ v 0 = nI K) ∧ ∀ p, p < gN w 2 → ∃ t, t < gN w 0 * gN w 1 ∧ v (6 + p) = nI t
def ZP (a : bb_O) (u : Nat → Int32) (n : Int32) (w : Nat → Int32) : Prop := ∃ k q : Nat, k ≤ 8 ∧ q < 8 ∧ a.1 2 = nI k ∧ n = nI k ∧ a.1 1 = nI q ∧ ∀ j, j < k → ZE (a.2.1 ((q + 8 - k + j) % 8)) (fun i => u (12 * j + i)) ∧ ZV (fun i => u (12 * j + i)) w
def ZA (c a : bb_O) (w u : Nat → Int32) (n : Int32) : Prop := RC c w ∧ ZI w ∧ ZP a u n w
def ZK (f : Int32) (c a : bb_O) (w : Nat → Int32) (n k : Int32) : Prop := (f = 0 ∧ k = 0) ∨ (f = 1 ∧ k = 1 ∧ ZA c a w (fun i => w (39 + i)) n)
def ZT (c : bb_O) (n : Int32) (u : Nat → Int32) : Prop := ∃ t : Nat, t ≤ 90 ∧ c.1 1 = nI t ∧ n = nI t ∧ ∀ i, i < t → ∃ ch : Nat, 32 ≤ ch ∧ ch ≤ 126 ∧ c.2.1 0 i = nI ch ∧ u i = nI ch
def ZW (c : bb_O) (lane size : Int32) (it : Nat → Int64) : Prop := c.1 0 = lane ∧ ((lane = -1 ∧ c.1 1 = 0) ∨ ∃ l n : Nat, l < 4 ∧ n ≤ 24 ∧ lane = nI l ∧ c.1 1 = nI n ∧ size = nI n) ∧ ∀ i, i < 24 → c.2.2 2 i = it i
def ZS (r0 r1 r2 r3 : bb_O) (la si : Nat → Int32) (it : Nat → Int64) : Prop := ZW r0 (la 0) (si 0) (fun i => it (0 + i)) ∧ ZW r1 (la 1) (si 1) (fun i => it (24 + i)) ∧ ZW r2 (la 2) (si 2) (fun i => it (48 + i)) ∧ ZW r3 (la 3) (si 3) (fun i => it (72 + i))
def ZR (σ : bb_H) (μ : bb_O) : Prop := ZA (σ 0) (σ 1) (μ.2.1 0) (μ.2.1 8) (μ.1 9) ∧ ZK ((σ 5).1 5) (σ 3) (σ 4) (μ.2.1 11) (μ.1 12) (μ.1 13) ∧ ZT (σ 6) (μ.1 4) (μ.2.1 3) ∧ ZS (σ 7) (σ 8) (σ 9) (σ 10) (μ.2.1 14) (μ.2.1 15) (μ.2.2 16)
/-- a call that both answer alike, and stay alike -/
def ZO (x : Option (Int32 × bb_H)) (y : Option (Int32 × bb_O)) : Prop := ∃ (r : Int32) (σ : bb_H) (μ : bb_O), x = some (r, σ) ∧ y = some (r, μ) ∧ ZR σ μ
theorem ZO.one {σ : bb_H} {μ : bb_O} (h : ZR σ μ) (r : Int32) : ZO (some (r, σ)) (some (r, μ)) := ⟨r, σ, μ, rfl, rfl, h⟩
/-- no answer of a person that isn't there -/
theorem zperson {σ : bb_H} {μ : bb_O} (h : ZR σ μ) (x : Int32) : (∃ p, p < gN (μ.2.1 0) 2 ∧ x = nI p ∧ F_X4_isNobody_0 σ x = some 0 ∧ F_X5_isPerson_0 μ x = some 1) ∨ (F_X4_isNobody_0 σ x = some 1 ∧ F_X5_isPerson_0 μ x = some 0) := by
  obtain ⟨hc, hi, -⟩ := h.1
  have hp6 := hi.2.2.1.2
  unfold F_X4_isNobody_0 F_X4_isNobody_15 F_X4_isNobody_20 F_X5_isPerson_0
  rw [bb_g_pos bz1, bb_g_pos bz0, hc.1.2.2.1, hi.2.2.1.1, zin x 0 (nI (gN (μ.2.1 0) 2) - 1) (l := 0) (by decide) rfl, Option.bind_some]
  rcases pk_ix x (n := gN (μ.2.1 0) 2) (by omega) with q | q | ⟨j, hj, rfl⟩
  · right
    rw [if_pos q, if_neg (fun z => absurd z.1 (Int32.not_le.mpr q)), bb_g_pos bz0]
    exact ⟨rfl, rfl⟩
  · right
    have h0 : ¬ x < 0 := fun z => absurd (Int32.lt_of_le_of_lt q z) (nI_pos (by omega))
    rw [if_neg h0, if_neg (Int32.not_lt.mpr q), if_neg (fun z => ?_), bb_g_pos bz0]
    · exact ⟨rfl, rfl⟩
    · have a1 := (fa_le _ _).mp q
      have a2 := (fa_le _ _).mp z.2
      rw [nI_toInt (by omega)] at a1
      rcases Nat.eq_zero_or_pos (gN (μ.2.1 0) 2) with e | e
      · rw [e] at a2
        rw [show (nI 0 - 1).toInt = -1 by decide] at a2
        have a3 := (fa_le _ _).mp z.1
        rw [show ((0 : Int32)).toInt = 0 by decide] at a3
        omega
      · rw [show (1 : Int32) = nI 1 from rfl, zs_le (by omega), nI_toInt (by omega)] at a2
        omega
  · left
    refine ⟨j, hj, rfl, ?_, ?_⟩
    · rw [if_neg (nI_pos (by omega)), if_pos (nI_lt hj (by omega))]
    · rw [show (1 : Int32) = nI 1 from rfl, zs_le (by omega), if_pos ⟨nI_pos' (by omega), nI_le (by omega) (by omega)⟩]
      exact bb_g_pos bz1
theorem RC_sf0 {c : bb_O} {w : Nat → Int32} (hc : RC c w) (x : Int32) : RC (bb_sf c 0 x) (upd w 0 x) := by
  obtain ⟨⟨a0, a1, a2, a3, a4, a5, a6, a7, a8⟩, hp⟩ := hc
  refine ⟨⟨?_, ?_, ?_, ?_, ?_, ?_, ?_, ?_, ?_⟩, fun p h => ?_⟩
  all_goals try (simp [bb_sf, upd, a0, a1, a2, a3, a4, a5, a6, a7, a8]; done)
  rw [zu_n w x (by omega), zu_n w x (by omega), zu_n w x (by omega), zu_n w x (by omega), zu_n w x (by omega)]
  exact hp p h
theorem RC_sf1 {c : bb_O} {w : Nat → Int32} (hc : RC c w) (x : Int32) : RC (bb_sf c 1 x) (upd w 1 x) := by
  obtain ⟨⟨a0, a1, a2, a3, a4, a5, a6, a7, a8⟩, hp⟩ := hc
  refine ⟨⟨?_, ?_, ?_, ?_, ?_, ?_, ?_, ?_, ?_⟩, fun p h => ?_⟩
  all_goals try (simp [bb_sf, upd, a0, a1, a2, a3, a4, a5, a6, a7, a8]; done)
  rw [zu_n w x (by omega), zu_n w x (by omega), zu_n w x (by omega), zu_n w x (by omega), zu_n w x (by omega)]
  exact hp p h
theorem RC_sf2 {c : bb_O} {w : Nat → Int32} (hc : RC c w) (x : Int32) : RC (bb_sf c 2 x) (upd w 2 x) := by
  obtain ⟨⟨a0, a1, a2, a3, a4, a5, a6, a7, a8⟩, hp⟩ := hc
  refine ⟨⟨?_, ?_, ?_, ?_, ?_, ?_, ?_, ?_, ?_⟩, fun p h => ?_⟩
  all_goals try (simp [bb_sf, upd, a0, a1, a2, a3, a4, a5, a6, a7, a8]; done)
  rw [zu_n w x (by omega), zu_n w x (by omega), zu_n w x (by omega), zu_n w x (by omega), zu_n w x (by omega)]
  exact hp p h
/-! ===== streets ===== -/
def zfr (w : Nat → Int32) (x y : Int32) : Nat → Int32 := upd (upd (upd (upd (upd (upd (upd (upd w 0 x) 1 y) 2 0) 3 0) 4 0) 5 0) 6 0) 7 0
theorem zm_fresh (μ : bb_O) (x y : Int32) : F_X5_fresh_0 μ x y = some (upd μ.1 9 0, va_up μ.2.1 0 (zfr (μ.2.1 0) x y), μ.2.2) := by
  have step : ∀ (n : Nat) (s : bb_O) (k : Nat), k < 8 → F_X5_fresh_16 (n + 1) s (nI k) = F_X5_fresh_16 n (bb_sA s 0 (upd (s.2.1 0) k 0)) (nI (k + 1)) := fun n s k hk => by
    show G_X5_fresh_16 (F_X5_fresh_16 n) s (nI k) = _
    unfold G_X5_fresh_16 F_X5_fresh_29
    rw [if_neg (show ¬ (8 : Int32) ≤ nI k from fun z => absurd ((nI_leI (a := 8) (b := k) (by decide) (by omega)).mp z) (by omega)), bb_g_pos (vp_in_nI (by omega) (by omega)), nI_clamp (by omega), nI_1]
  have last : ∀ (n : Nat) (s : bb_O), F_X5_fresh_16 (n + 1) s (nI 8) = some (bb_sf s 9 0) := fun n s => by
    show G_X5_fresh_16 (F_X5_fresh_16 n) s (nI 8) = _
    unfold G_X5_fresh_16 F_X5_fresh_40
    rw [if_pos (by decide)]
  unfold F_X5_fresh_0 F_X5_fresh_7 F_X5_fresh_14
  show F_X5_fresh_16 (193 + 1 + 1 + 1 + 1 + 1 + 1 + 1) _ (nI 2) = _
  rw [step _ _ 2 (by omega), step _ _ 3 (by omega), step _ _ 4 (by omega), step _ _ 5 (by omega), step _ _ 6 (by omega), step _ _ 7 (by omega), last]
  unfold bb_sf bb_sA zfr
  simp only [bx_uu, va_up_self]
theorem zfr_hi (w : Nat → Int32) (x y : Int32) {i : Nat} (h : 8 ≤ i) : zfr w x y i = w i := by
  unfold zfr
  rw [zu_n _ _ (by omega), zu_n _ _ (by omega), zu_n _ _ (by omega), zu_n _ _ (by omega), zu_n _ _ (by omega), zu_n _ _ (by omega), zu_n _ _ (by omega), zu_n _ _ (by omega)]
theorem zfr_ZI (w : Nat → Int32) {R C : Nat} (h1 : 2 ≤ R) (h2 : R ≤ 6) (h3 : 2 ≤ C) (h4 : C ≤ 6) : ZI (zfr w (nI R) (nI C)) := by
  have g0 : gN (zfr w (nI R) (nI C)) 0 = R := nI_clamp (by omega)
  have g1 : gN (zfr w (nI R) (nI C)) 1 = C := nI_clamp (by omega)
  have g2 : gN (zfr w (nI R) (nI C)) 2 = 0 := rfl
  have g3 : gN (zfr w (nI R) (nI C)) 3 = 0 := rfl
  refine ⟨⟨by rw [g0]; rfl, by omega, by omega⟩, ⟨by rw [g1]; rfl, by omega, by omega⟩, ⟨by rw [g2]; rfl, by omega⟩, ⟨by rw [g3]; rfl, ?_⟩, fun p hp => by omega⟩
  rw [g3, g0, g1]
  exact Nat.mul_pos (by omega) (by omega)
theorem zc_build {c : bb_O} {w : Nat → Int32} (hc : RC c w) (x y : Int32) : ∃ c', F_X0_build_0 c x y = some c' ∧ RC c' (zfr w x y) := by
  refine ⟨_, rfl, ?_⟩
  refine ⟨⟨rfl, rfl, rfl, rfl, rfl, rfl, rfl, rfl, hc.1.2.2.2.2.2.2.2.2⟩, fun p hp => ?_⟩
  rw [zfr_hi _ _ _ (by omega), zfr_hi _ _ _ (by omega), zfr_hi _ _ _ (by omega), zfr_hi _ _ _ (by omega), zfr_hi _ _ _ (by omega)]
  exact hc.2 p hp
theorem ZP_0 {a : bb_O} {u w : Nat → Int32} {n : Int32} (h : ZP a u n w) (v w' : Nat → Int32) : ZP (bb_sf a 2 0) v 0 w' := by
  obtain ⟨k, q, -, hq, -, -, h5, -⟩ := h
  exact ⟨0, q, by omega, hq, rfl, rfl, h5, fun j hj => by omega⟩
theorem q_streets {σ : bb_H} {μ : bb_O} (h : ZR σ μ) (x y : Int32) : ZO (F_X4_streets_0 σ x y) (F_X5_streets_0 μ x y) := by
  unfold F_X4_streets_0 F_X5_streets_0 F_X4_streets_20 F_X5_streets_28
  rcases zgd x 2 6 (l := 2) (h := 6) (by decide) (by decide) with ⟨h1, e1, e2⟩ | ⟨h1, e1, e2⟩
  · rcases zgd y 2 6 (l := 2) (h := 6) (by decide) (by decide) with ⟨h2, e3, e4⟩ | ⟨h2, e3, e4⟩
    · simp only [e1, e2, e3, e4, Option.bind_some, z10, ↓reduceIte]
      obtain ⟨R, a1, a2, rfl⟩ := zrg (lo := 2) (hi := 6) (by decide) (by decide) h1
      obtain ⟨C, a3, a4, rfl⟩ := zrg (lo := 2) (hi := 6) (by decide) (by decide) h2
      obtain ⟨c', e1, hc'⟩ := zc_build h.1.1 (nI R) (nI C)
      rw [e1, Option.bind_some, zm_fresh, Option.bind_some]
      refine ⟨nI R * nI C, va_up (va_up σ 0 c') 1 (bb_sf (σ 1) 2 0), _, ?_, rfl, ⟨⟨hc', zfr_ZI _ a1 a2 a3 a4, ZP_0 h.1.2.2 _ _⟩, h.2.1, h.2.2.1, h.2.2.2⟩⟩
      show some (c'.1 0 * c'.1 1, _) = _
      rw [hc'.1.1, hc'.1.2.1]
      rfl
    · simp only [e1, e2, e3, e4, Option.bind_some, z10, ↓reduceIte]
      exact ZO.one h _
  · simp only [e1, e2, Option.bind_some, z10, ↓reduceIte]
    exact ZO.one h _
