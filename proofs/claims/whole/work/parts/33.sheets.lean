/-! ===== sheets ===== -/
theorem znat {x : Int32} (h : ¬ x < 0) : ∃ k, k < 2 ^ 31 ∧ x = nI k := by
  have a1 := (fa_le _ _).mp (fa_of_nlt h)
  rw [show ((0 : Int32)).toInt = 0 by decide] at a1
  have a2 := x.toInt_lt
  refine ⟨x.toInt.toNat, by omega, ?_⟩
  rw [fa_eq, nI_toInt (by omega)]
  omega
theorem zsheet (x : Int32) : (∃ r, r < 4 ∧ x = nI r ∧ F_X4_isNoSheet_0 x = some 0 ∧ F_X5_isSheet_0 x = some 1) ∨ (F_X4_isNoSheet_0 x = some 1 ∧ F_X5_isSheet_0 x = some 0) := by
  unfold F_X4_isNoSheet_0 F_X5_isSheet_0
  rcases zgd x 0 3 (l := 0) (h := 3) (by decide) (by decide) with ⟨h1, e1, e2⟩ | ⟨h1, e1, e2⟩
  · left
    obtain ⟨k, -, hk, rfl⟩ := zrg (lo := 0) (hi := 3) (by decide) (by decide) h1
    exact ⟨k, by omega, rfl, by rw [e1, Option.bind_some, bb_g_pos bz0], by rw [e2, Option.bind_some, bb_g_pos bz1]⟩
  · right
    exact ⟨by rw [e1, Option.bind_some, bb_g_pos bz1], by rw [e2, Option.bind_some, bb_g_pos bz0]⟩
theorem zlane (x : Int32) : (∃ r, r < 4 ∧ x = nI r ∧ F_X4_outside_0 x 0 3 = some 0 ∧ F_X5_isLane_0 x = some 1) ∨ (F_X4_outside_0 x 0 3 = some 1 ∧ F_X5_isLane_0 x = some 0) := by
  unfold F_X5_isLane_0
  rcases zgd x 0 3 (l := 0) (h := 3) (by decide) (by decide) with ⟨h1, e1, e2⟩ | ⟨h1, e1, e2⟩
  · left
    obtain ⟨k, -, hk, rfl⟩ := zrg (lo := 0) (hi := 3) (by decide) (by decide) h1
    exact ⟨k, by omega, rfl, e1, by rw [e2, Option.bind_some, bb_g_pos bz1]⟩
  · right
    exact ⟨e1, by rw [e2, Option.bind_some, bb_g_pos bz0]⟩
theorem ZS_get {σ : bb_H} {μ : bb_O} (h : ZR σ μ) {r : Nat} (hr : r < 4) : ZW (σ (7 + r)) (μ.2.1 14 r) (μ.2.1 15 r) (fun i => μ.2.2 16 (24 * r + i)) := by
  match r, hr with
  | 0, _ => exact h.2.2.2.1
  | 1, _ => exact h.2.2.2.2.1
  | 2, _ => exact h.2.2.2.2.2.1
  | 3, _ => exact h.2.2.2.2.2.2
theorem ZR_row {σ : bb_H} {μ μ' : bb_O} (h : ZR σ μ) {r : Nat} (hr : r < 4) {c' : bb_O} (e1 : μ'.1 = μ.1) (e2 : ∀ k, k < 14 → μ'.2.1 k = μ.2.1 k) (hz : ZW c' (μ'.2.1 14 r) (μ'.2.1 15 r) (fun i => μ'.2.2 16 (24 * r + i))) (ho : ∀ j, j < 4 → j ≠ r → μ'.2.1 14 j = μ.2.1 14 j ∧ μ'.2.1 15 j = μ.2.1 15 j ∧ ∀ i, i < 24 → μ'.2.2 16 (24 * j + i) = μ.2.2 16 (24 * j + i)) : ZR (va_up σ (7 + r) c') μ' := by
  have row : ∀ j, j < 4 → ZW (va_up σ (7 + r) c' (7 + j)) (μ'.2.1 14 j) (μ'.2.1 15 j) (fun i => μ'.2.2 16 (24 * j + i)) := fun j hj => by
    by_cases e : j = r
    · subst e
      rw [va_up_self]
      exact hz
    · rw [va_up_ne _ _ (by omega)]
      obtain ⟨a, b, c⟩ := ho j hj e
      obtain ⟨z1, z2, z3⟩ := ZS_get h hj
      rw [a, b]
      exact ⟨z1, z2, fun i hi => by rw [z3 i hi]; exact (c i hi).symm⟩
  have oth : ∀ k, k < 7 → va_up σ (7 + r) c' k = σ k := fun k hk => va_up_ne _ _ (by omega)
  refine ⟨?_, ?_, ?_, row 0 (by omega), row 1 (by omega), row 2 (by omega), row 3 (by omega)⟩
  · rw [oth 0 (by omega), oth 1 (by omega), e2 0 (by omega), e2 8 (by omega), e1]
    exact h.1
  · rw [oth 5 (by omega), oth 3 (by omega), oth 4 (by omega), e2 11 (by omega), e1]
    exact h.2.1
  · rw [oth 6 (by omega), e1, e2 3 (by omega)]
    exact h.2.2.1
def zfits (x n : Int32) (N : Nat) : Prop := ∃ a b : Nat, a + b ≤ N ∧ x = nI a ∧ n = nI b
theorem zfits_nI {a b N : Nat} (ha : a < 2 ^ 31) (hb : b < 2 ^ 31) (hN : N < 2 ^ 31) : zfits (nI a) (nI b) N ↔ a + b ≤ N := by
  constructor
  · intro ⟨a', b', h1, h2, h3⟩
    have q1 := (nI_eq ha (by omega)).mp h2
    have q2 := (nI_eq hb (by omega)).mp h3
    omega
  · intro h
    exact ⟨a, b, h, rfl, rfl⟩
theorem zreach {c : bb_O} {N : Nat} (hN : c.1 1 = nI N) (h24 : N ≤ 24) (x n : Int32) : (zfits x n N ∧ F_X2_reaches_0 c x n = some 1) ∨ (¬ zfits x n N ∧ F_X2_reaches_0 c x n = some 0) := by
  unfold F_X2_reaches_0 F_X2_reaches_30 F_X2_reaches_31
  rw [bb_g_pos bz0, bb_g_pos bz1, hN]
  by_cases hx : x < 0
  · right
    rw [if_pos hx]
    exact ⟨fun ⟨a, b, h1, h2, h3⟩ => absurd hx (by rw [h2]; exact nI_pos (by omega)), rfl⟩
  · rw [if_neg hx]
    by_cases hn : n < 0
    · right
      rw [if_pos hn]
      exact ⟨fun ⟨a, b, h1, h2, h3⟩ => absurd hn (by rw [h3]; exact nI_pos (by omega)), rfl⟩
    · rw [if_neg hn]
      obtain ⟨a, ha, rfl⟩ := znat hx
      obtain ⟨b, hb, rfl⟩ := znat hn
      rw [zfits_nI ha hb (by omega)]
      by_cases h1 : N < b
      · right
        rw [if_pos ((nI_ltI (by omega) hb).mpr h1)]
        exact ⟨by omega, rfl⟩
      · rw [if_neg (fun q => h1 ((nI_ltI (by omega) hb).mp q)), zs_le (by omega)]
        by_cases h2 : N - b < a
        · right
          rw [if_pos ((nI_ltI (by omega) ha).mpr h2)]
          exact ⟨by omega, rfl⟩
        · left
          rw [if_neg (fun q => h2 ((nI_ltI (by omega) ha).mp q))]
          exact ⟨by omega, rfl⟩
theorem zfault {σ : bb_H} {μ : bb_O} (h : ZR σ μ) {r l : Nat} (hr : r < 4) (hl : l < 4) (x n : Int32) : (∃ N a b : Nat, N ≤ 24 ∧ a + b ≤ N ∧ x = nI a ∧ n = nI b ∧ μ.2.1 14 r = nI l ∧ (σ (7 + r)).1 0 = nI l ∧ (σ (7 + r)).1 1 = nI N ∧ μ.2.1 15 r = nI N ∧ F_X2_faultOf_0 (σ (7 + r)) (nI l) x n = some 0 ∧ F_X5_why_0 μ (nI r) (nI l) x n = some 0) ∨ ∃ q : Int32, q < 0 ∧ F_X2_faultOf_0 (σ (7 + r)) (nI l) x n = some q ∧ F_X5_why_0 μ (nI r) (nI l) x n = some q := by
  obtain ⟨z1, z2, -⟩ := ZS_get h hr
  unfold F_X2_faultOf_0 F_X2_faultOf_36 F_X2_isMissing_0 F_X2_isMissing_13 F_X5_why_0 F_X5_why_51 F_X5_why_57
  rw [bb_g_pos (vp_in_nI hr (by omega)), bb_g_pos (vp_in_nI hr (by omega)), bb_g_pos (vp_in_nI hr (by omega)), nI_clamp (by omega), bb_g_pos bz1, bb_g_pos bz0]
  rcases z2 with ⟨z2, z3⟩ | ⟨l', N, hl', hN, z2, z3, z4⟩
  · right
    refine ⟨-11, by decide, ?_, ?_⟩
    · rw [z1, z2, if_pos rfl, Option.bind_some, if_neg z10]
    · rw [z2, if_neg (show ¬ (0 : Int32) ≤ -1 by decide)]
  · have nm : ¬ nI l' = -1 := fun q => absurd (show nI l' < 0 by rw [q]; decide) (nI_pos (by omega))
    rw [z1, z2, if_neg nm, Option.bind_some, if_pos rfl, if_pos (nI_pos' (by omega))]
    by_cases e : l' = l
    · subst e
      rw [if_pos rfl, if_pos rfl]
      rcases zreach z3 hN x n with ⟨⟨a, b, f1, rfl, rfl⟩, f2⟩ | ⟨f1, f2⟩
      · left
        refine ⟨N, a, b, hN, f1, rfl, rfl, rfl, rfl, z3, z4, ?_, ?_⟩
        · rw [f2, Option.bind_some, if_neg z10]
        · rw [if_neg (nI_pos (by omega)), if_neg (nI_pos (by omega)), z4, nI_l (by omega), nI_l (by omega), nI_l (by omega), lN_add]
          rw [if_pos (Int32.not_lt.mp (fun q => absurd ((lN_lt (by omega) (by omega)).mp ((zcmp_gt _ _).mp q)) (by omega)))]
      · right
        refine ⟨-13, by decide, ?_, ?_⟩
        · rw [f2, Option.bind_some, if_pos rfl]
        · by_cases hx : x < 0
          · rw [if_pos hx]
          · rw [if_neg hx]
            by_cases hn : n < 0
            · rw [if_pos hn]
            · rw [if_neg hn]
              obtain ⟨a, ha, rfl⟩ := znat hx
              obtain ⟨b, hb, rfl⟩ := znat hn
              rw [zfits_nI ha hb (by omega)] at f1
              rw [z4, nI_l ha, nI_l hb, nI_l (by omega), lN_add]
              rw [if_neg (fun q => absurd ((zcmp_gt _ _).mpr ((pk_lLT (a := N) (b := a + b) (by omega) (by omega)).mpr (by omega))) (Int32.not_lt.mpr q))]
    · right
      refine ⟨-12, by decide, ?_, ?_⟩
      · rw [if_neg (fun q => e ((nI_eq (by omega) (by omega)).mp q))]
      · rw [if_neg (fun q => e ((nI_eq (by omega) (by omega)).mp q))]
def zcut (l : Nat) (v : Int64) : Int64 := if l = 0 then (v.toInt32.toInt8.toInt32).toInt64 else if l = 1 then (v.toInt32.toInt16.toInt32).toInt64 else if l = 2 then v.toInt32.toInt64 else v
theorem zput {c : bb_O} {N l a : Nat} (hN : c.1 1 = nI N) (h24 : N ≤ 24) (hl : l < 4) (hc : c.1 0 = nI l) (ha : a < N) (v : Int64) : F_X2_put_0 c (nI a) v = some (bb_sB c 2 (vp_updL (c.2.2 2) a (zcut l v))) := by
  unfold F_X2_put_0 F_X2_put_85
  rcases zreach hN h24 (nI a) 1 with ⟨-, f⟩ | ⟨f, -⟩
  · rw [f, Option.bind_some, if_neg z10, hc, bb_g_pos (vp_in_nI (by omega) (by omega)), bb_g_pos (vp_in_nI (by omega) (by omega)), bb_g_pos (vp_in_nI (by omega) (by omega)), bb_g_pos (vp_in_nI (by omega) (by omega)), nI_clamp (by omega)]
    match l, hl with
    | 0, _ => rfl
    | 1, _ => rfl
    | 2, _ => rfl
    | 3, _ => rfl
  · exact absurd ((zfits_nI (a := a) (b := 1) (by omega) (by omega) (by omega)).mpr (by omega)) f
theorem q_item {σ : bb_H} {μ : bb_O} (h : ZR σ μ) (x y i : Int32) (v : Int64) : ZO (F_X4_item_0 σ x y i v) (F_X5_item_0 μ x y i v) := by
  unfold F_X4_item_0 F_X5_item_0 F_X4_item_16 F_X5_item_14 F_X5_item_83 F_X5_item_84
  rcases zsheet x with ⟨r, hr, rfl, e1, e2⟩ | ⟨e1, e2⟩
  · rcases zlane y with ⟨l, hl, rfl, e3, e4⟩ | ⟨e3, e4⟩
    · have hv : vp_in (nI r) 4 := vp_in_nI hr (by omega)
      simp only [e1, e2, e3, e4, Option.bind_some, z10, ↓reduceIte, bb_g_pos hv, nI_clamp (show r < 2 ^ 31 by omega)]
      rcases zfault h hr hl i 1 with ⟨N, a, b, hN, hab, rfl, hb, k1, k2, k3, k4, k5, k6⟩ | ⟨q, hq, k5, k6⟩
      · have hb1 : b = 1 := by
          have := (nI_eq (a := 1) (b := b) (by omega) (by omega)).mp hb
          omega
        subst hb1
        have ei : (24 : Int32) * nI r + nI a = nI (24 * r + a) := by rw [fa_lit 24, pk_mul, nI_add]
        simp only [k5, k6, Option.bind_some, show (0 : Int32) ≤ 0 from by decide, ↓reduceIte, zput k3 hN hl k2 (show a < N by omega), ei, bb_g_pos (vp_in_nI (show 24 * r + a < 96 by omega) (by omega)), nI_clamp (show 24 * r + a < 2 ^ 31 by omega)]
        refine ⟨1, va_up σ (7 + r) (bb_sB (σ (7 + r)) 2 (vp_updL ((σ (7 + r)).2.2 2) a (zcut l v))), bb_sB μ 16 (vp_updL (μ.2.2 16) (24 * r + a) (zcut l v)), rfl, ?_, ZR_row h hr rfl (fun _ _ => rfl) ?_ (fun j hj hn => ⟨rfl, rfl, fun i hi => pk_uLn (by omega)⟩)⟩
        · match l, hl with
          | 0, _ => rfl
          | 1, _ => rfl
          | 2, _ => rfl
          | 3, _ => rfl
        · obtain ⟨z1, z2, z3⟩ := ZS_get h hr
          refine ⟨z1, z2, fun i hi => ?_⟩
          show vp_updL ((σ (7 + r)).2.2 2) a (zcut l v) i = vp_updL (μ.2.2 16) (24 * r + a) (zcut l v) (24 * r + i)
          by_cases e : i = a
          · subst e
            rw [pk_uLs, pk_uLs]
          · rw [pk_uLn e, pk_uLn (by omega)]
            exact z3 i hi
      · simp only [k5, k6, Option.bind_some, show ¬ (0 : Int32) ≤ q from Int32.not_le.mpr hq, ↓reduceIte]
        exact ZO.one h _
    · simp only [e1, e2, e3, e4, Option.bind_some, z10, ↓reduceIte]
      exact ZO.one h _
  · simp only [e1, e2, Option.bind_some, z10, ↓reduceIte]
    exact ZO.one h _
theorem q_drop {σ : bb_H} {μ : bb_O} (h : ZR σ μ) (x : Int32) : ZO (F_X4_drop_0 σ x) (F_X5_drop_0 μ x) := by
  unfold F_X4_drop_0 F_X5_drop_0 F_X5_drop_28 F_X2_isMissing_0 F_X2_isMissing_13 F_X2_lose_0
  rcases zsheet x with ⟨r, hr, rfl, e1, e2⟩ | ⟨e1, e2⟩
  · have hv : vp_in (nI r) 4 := vp_in_nI hr (by omega)
    simp only [e1, e2, Option.bind_some, z10, ↓reduceIte, bb_g_pos hv, nI_clamp (show r < 2 ^ 31 by omega), bb_g_pos bz0, bb_g_pos bz1]
    obtain ⟨z1, z2, z3⟩ := ZS_get h hr
    rw [z1]
    rcases z2 with ⟨z2, z4⟩ | ⟨l', N, hl', hN, z2, z4, z5⟩
    · rw [z2, if_pos rfl, Option.bind_some, if_neg z10, if_neg (show ¬ (0 : Int32) ≤ -1 by decide)]
      exact ZO.one h _
    · have nm : ¬ nI l' = -1 := fun q => absurd (show nI l' < 0 by rw [q]; decide) (nI_pos (by omega))
      rw [z2, if_neg nm, Option.bind_some, if_pos rfl, if_pos (nI_pos' (by omega)), z4]
      refine ⟨nI N, va_up σ (7 + r) (bb_sf (bb_sf (σ (7 + r)) 0 (-1)) 1 0), bb_sA μ 14 (upd (μ.2.1 14) r (-1)), rfl, ?_, ZR_row h hr rfl (fun k hk => va_up_ne _ _ (by omega)) ?_ (fun j hj hn => ⟨zu_n _ _ hn, rfl, fun _ _ => rfl⟩)⟩
      · rw [show (bb_sA μ 14 (upd (μ.2.1 14) r (-1))).2.1 15 r = nI N from z5]
      · exact ⟨(zu_s _ _ _).symm, Or.inl ⟨zu_s _ _ _, rfl⟩, z3⟩
  · simp only [e1, e2, Option.bind_some, z10, ↓reduceIte]
    exact ZO.one h _
theorem zw_renew : ∀ (r n k : Nat) (s : bb_O), k + r = 24 → r < n → (∀ i, i < k → s.2.2 2 i = 0) → ∃ s', F_X2_renew_12 n s (nI k) = some s' ∧ s'.1 = s.1 ∧ ∀ i, i < 24 → s'.2.2 2 i = 0 := by
  intro r
  induction r with
  | zero =>
    intro n k s h1 h2 h3
    obtain ⟨n, rfl⟩ : ∃ m, n = m + 1 := ⟨n - 1, by omega⟩
    obtain rfl : k = 24 := by omega
    refine ⟨s, ?_, rfl, h3⟩
    show G_X2_renew_12 (F_X2_renew_12 n) s (nI 24) = _
    unfold G_X2_renew_12
    rw [if_pos (by decide)]
  | succ r ih =>
    intro n k s h1 h2 h3
    obtain ⟨n, rfl⟩ : ∃ m, n = m + 1 := ⟨n - 1, by omega⟩
    obtain ⟨s', q1, q2, q3⟩ := ih n (k + 1) (bb_sB s 2 (vp_updL (s.2.2 2) k 0)) (by omega) (by omega) (fun i hi => by
      show vp_updL (s.2.2 2) k 0 i = 0
      by_cases e : i = k
      · rw [e, pk_uLs]
      · rw [pk_uLn e]; exact h3 i (by omega))
    refine ⟨s', ?_, q2, q3⟩
    show G_X2_renew_12 (F_X2_renew_12 n) s (nI k) = _
    unfold G_X2_renew_12
    rw [if_neg (show ¬ (24 : Int32) ≤ nI k from fun z => absurd ((nI_leI (a := 24) (b := k) (by decide) (by omega)).mp z) (by omega)), bb_g_pos (vp_in_nI (by omega) (by omega)), nI_clamp (by omega), nI_1, q1]
theorem zm_sheetL {t : Nat} (ht : t < 4) (x : Int32) : ∀ (r n k : Nat) (s : bb_O), k + r = 24 → r < n → ∃ s', F_X5_sheet_46 n s (nI t) x (nI k) = some (x, s') ∧ s'.1 = s.1 ∧ s'.2.1 = s.2.1 ∧ (∀ i, k ≤ i → i < 24 → s'.2.2 16 (24 * t + i) = 0) ∧ ∀ j, (j < 24 * t + k ∨ 24 * t + 24 ≤ j) → s'.2.2 16 j = s.2.2 16 j := by
  intro r
  induction r with
  | zero =>
    intro n k s h1 h2
    obtain ⟨n, rfl⟩ : ∃ m, n = m + 1 := ⟨n - 1, by omega⟩
    obtain rfl : k = 24 := by omega
    refine ⟨s, ?_, rfl, rfl, fun i h1 h2 => by omega, fun _ _ => rfl⟩
    show G_X5_sheet_46 (F_X5_sheet_46 n) s (nI t) x (nI 24) = _
    unfold G_X5_sheet_46
    rw [if_pos (by decide)]
  | succ r ih =>
    intro n k s h1 h2
    obtain ⟨n, rfl⟩ : ∃ m, n = m + 1 := ⟨n - 1, by omega⟩
    obtain ⟨s', q1, q2, q3, q4, q5⟩ := ih n (k + 1) (bb_sB s 16 (vp_updL (s.2.2 16) (24 * t + k) 0)) (by omega) (by omega)
    have ei : (24 : Int32) * nI t + nI k = nI (24 * t + k) := by rw [fa_lit 24, pk_mul, nI_add]
    refine ⟨s', ?_, q2, q3, fun i h1 h2 => ?_, fun j hj => ?_⟩
    · show G_X5_sheet_46 (F_X5_sheet_46 n) s (nI t) x (nI k) = _
      unfold G_X5_sheet_46 F_X5_sheet_66
      rw [if_neg (show ¬ (24 : Int32) ≤ nI k from fun z => absurd ((nI_leI (a := 24) (b := k) (by decide) (by omega)).mp z) (by omega)), ei, bb_g_pos (vp_in_nI (by omega) (by omega)), nI_clamp (by omega), nI_1, q1]
    · by_cases e : i = k
      · rw [e, q5 _ (by omega)]
        exact pk_uLs
      · exact q4 i (by omega) h2
    · rw [q5 j (by omega)]
      exact pk_uLn (by omega)
theorem q_sheet {σ : bb_H} {μ : bb_O} (h : ZR σ μ) (x y n : Int32) : ZO (F_X4_sheet_0 σ x y n) (F_X5_sheet_0 μ x y n) := by
  unfold F_X4_sheet_0 F_X5_sheet_0 F_X4_sheet_22 F_X5_sheet_20 F_X5_sheet_36 F_X5_sheet_43 F_X2_renew_0
  rcases zsheet x with ⟨r, hr, rfl, e1, e2⟩ | ⟨e1, e2⟩
  · rcases zlane y with ⟨l, hl, rfl, e3, e4⟩ | ⟨e3, e4⟩
    · have hv : vp_in (nI r) 4 := vp_in_nI hr (by omega)
      simp only [e1, e2, e3, e4, Option.bind_some, z10, ↓reduceIte, bb_g_pos hv, nI_clamp (show r < 2 ^ 31 by omega)]
      by_cases c1 : n ≤ 24
      · rw [if_pos c1, if_pos c1]
        by_cases c2 : 0 ≤ n
        · rw [if_pos c2, if_pos c2]
          obtain ⟨k, -, hk, rfl⟩ := zrg (lo := 0) (hi := 24) (by decide) (by decide) ⟨c2, c1⟩
          obtain ⟨s1, a1, a2, a3⟩ := zw_renew 24 bb_N 0 (bb_sf (bb_sf (σ (7 + r)) 0 (nI l)) 1 (nI k)) (by omega) (by decide) (fun i hi => by omega)
          obtain ⟨s2, b1, b2, b3, b4, b5⟩ := zm_sheetL hr (nI k) 24 bb_N 0 (bb_sA (bb_sA μ 14 (upd (μ.2.1 14) r (nI l))) 15 (upd ((bb_sA μ 14 (upd (μ.2.1 14) r (nI l))).2.1 15) r (nI k))) (by omega) (by decide)
          rw [show (0 : Int32) = nI 0 from rfl, a1, b1, Option.bind_some]
          refine ⟨nI k, va_up σ (7 + r) s1, s2, rfl, rfl, ZR_row h hr b2 (fun k hk => ?_) ?_ (fun j hj hn => ⟨?_, ?_, fun i hi => b5 _ (by omega)⟩)⟩
          · rw [b3]
            show va_up (va_up μ.2.1 14 _) 15 _ k = _
            rw [va_up_ne _ _ (by omega), va_up_ne _ _ (by omega)]
          · refine ⟨?_, Or.inr ⟨l, k, hl, by omega, ?_, ?_, ?_⟩, fun i hi => ?_⟩
            · rw [a2, b3]
              exact (zu_s _ _ _).symm
            · rw [b3]
              exact zu_s _ _ _
            · rw [a2]
              rfl
            · rw [b3]
              exact zu_s _ _ _
            · exact (a3 i hi).trans (b4 i (by omega) hi).symm
          · rw [b3]
            exact zu_n _ _ hn
          · rw [b3]
            exact zu_n _ _ hn
        · rw [if_neg c2, if_neg c2]
          exact ZO.one h _
      · rw [if_neg c1, if_neg c1]
        exact ZO.one h _
    · simp only [e1, e2, e3, e4, Option.bind_some, z10, ↓reduceIte]
      exact ZO.one h _
  · simp only [e1, e2, Option.bind_some, z10, ↓reduceIte]
    exact ZO.one h _
