/-! ===== seen ===== -/
def ztl (it : Nat → Int64) : Nat → Nat → (Nat → Int32) → Bool
  | 0, _, _ => true
  | r + 1, k, w => if it k = (zps w 3).toInt64 then ztl it r (k + 1) (zps w) else false
theorem zc_tell {N a S : Nat} (hS : a + N ≤ S) (hS24 : S ≤ 24) : ∀ (m n k : Nat) (rw c : bb_O) (w : Nat → Int32), RC c w → ZI w → k + m = N → m < n → ∃ c', F_X2_tellsOf_14 n rw c (nI a) (nI N) (nI k) = some (if ztl (fun i => rw.2.2 2 (a + i)) m k w then 1 else 0, (rw, c')) := by
  intro m
  induction m with
  | zero =>
    intro n k rw c w hc hi h1 h2
    obtain ⟨n, rfl⟩ : ∃ m, n = m + 1 := ⟨n - 1, by omega⟩
    refine ⟨c, ?_⟩
    show G_X2_tellsOf_14 (F_X2_tellsOf_14 n) rw c (nI a) (nI N) (nI k) = _
    unfold G_X2_tellsOf_14
    rw [if_pos (nI_le (by omega) (by omega))]
    rfl
  | succ m ih =>
    intro n k rw c w hc hi h1 h2
    obtain ⟨n, rfl⟩ : ∃ m, n = m + 1 := ⟨n - 1, by omega⟩
    obtain ⟨c1, e4, e5⟩ := zc_pass hc hi
    obtain ⟨c', q⟩ := ih n (k + 1) rw c1 (zps w) e5 (zps_ZI hi) (by omega) (by omega)
    have h3 : c1.1 3 = zps w 3 := e5.1.2.2.2.1
    show ∃ c', G_X2_tellsOf_14 (F_X2_tellsOf_14 n) rw c (nI a) (nI N) (nI k) = some (if (if rw.2.2 2 (a + k) = (zps w 3).toInt64 then ztl (fun i => rw.2.2 2 (a + i)) m (k + 1) (zps w) else false) = true then 1 else 0, (rw, c'))
    unfold G_X2_tellsOf_14
    rw [if_neg (show ¬ nI N ≤ nI k from fun z => absurd ((nI_leI (by omega) (by omega)).mp z) (by omega)), e4, Option.bind_some, nI_add, bb_g_pos (vp_in_nI (by omega) (by omega)), nI_clamp (by omega), h3, nI_1]
    by_cases e : rw.2.2 2 (a + k) = (zps w 3).toInt64
    · rw [if_pos ((zcmp_eq _ _).mpr e), if_pos e]
      exact ⟨c', q⟩
    · rw [if_neg (fun z => e ((zcmp_eq _ _).mp z)), if_neg e]
      exact ⟨c1, rfl⟩
theorem zm_tell {N a r : Nat} (hr : r < 4) (hS24 : a + N ≤ 24) (k73 : bb_O → Int32 → Int32 → Int32 → Int32 → Int32 → Int32 → Int32 → Option (Int32 × bb_O)) (y A B x : Int32) : ∀ (m n k : Nat) (s : bb_O) (f : Bool), ZI (s.2.1 0) → k + m = N → m < n → ∃ s', F_X5_seen_96 k73 n s (nI r) (nI a) (nI N) y A B x (if f then 1 else 0) (nI k) = (if (f && ztl (fun i => s.2.2 16 (24 * r + (a + i))) m k (s.2.1 0)) = true then k73 s' (nI r) (nI a) (nI N) y (A + 1) (if A = 0 then x else B) (x + 1) else k73 s' (nI r) (nI a) (nI N) y A B (x + 1)) ∧ ZFr s s' ∧ s'.2.1 10 = s.2.1 10 ∧ ∀ i, i < 39 → s'.2.1 0 i = s.2.1 10 i := by
  intro m
  induction m with
  | zero =>
    intro n k s f hi h1 h2
    obtain ⟨n, rfl⟩ : ∃ m, n = m + 1 := ⟨n - 1, by omega⟩
    obtain ⟨u, b1, b2⟩ := zm_backs s
    refine ⟨bb_sA s 0 u, ?_, ZFr.s0 _ _, rfl, b2⟩
    show G_X5_seen_96 k73 (F_X5_seen_96 k73 n) s (nI r) (nI a) (nI N) y A B x (if f then 1 else 0) (nI k) = (if (f && true) = true then _ else _)
    unfold G_X5_seen_96 F_X5_seen_166 F_X5_seen_168 F_X5_seen_182
    rw [if_pos (nI_le (by omega) (by omega))]
    simp only [b1, Option.bind_some]
    cases f
    · simp only [Bool.false_eq_true, Bool.false_and, ↓reduceIte, Int32.add_zero]
    · by_cases e : A = 0
      · simp only [e, Bool.and_self, z10, ↓reduceIte]
      · simp only [e, Bool.and_self, z10, ↓reduceIte]
  | succ m ih =>
    intro n k s f hi h1 h2
    obtain ⟨n, rfl⟩ : ∃ m, n = m + 1 := ⟨n - 1, by omega⟩
    have e6 := zm_goesBy (μ := s) (w := s.2.1 0) rfl hi
    have ei : (24 : Int32) * nI r + nI a + nI k = nI (24 * r + (a + k)) := by rw [fa_lit 24, pk_mul, nI_add, nI_add, Nat.add_assoc]
    have step : F_X5_seen_96 k73 (n + 1) s (nI r) (nI a) (nI N) y A B x (if f then 1 else 0) (nI k) = F_X5_seen_96 k73 n (zgo s (s.2.1 0)) (nI r) (nI a) (nI N) y A B x (if (f && decide (s.2.2 16 (24 * r + (a + k)) = (zps (s.2.1 0) 3).toInt64)) then 1 else 0) (nI (k + 1)) := by
      show G_X5_seen_96 k73 (F_X5_seen_96 k73 n) s (nI r) (nI a) (nI N) y A B x (if f then 1 else 0) (nI k) = _
      unfold G_X5_seen_96 F_X5_seen_108 F_X5_seen_142 F_X5_seen_143
      rw [if_neg (show ¬ nI N ≤ nI k from fun z => absurd ((nI_leI (by omega) (by omega)).mp z) (by omega)), e6, Option.bind_some, ei, bb_g_pos (vp_in_nI (by omega) (by omega)), nI_clamp (by omega), nI_1]
      rw [show (zgo s (s.2.1 0)).2.1 0 = zps (s.2.1 0) from rfl, show (zgo s (s.2.1 0)).2.2 = s.2.2 from rfl]
      cases f
      · simp only [Bool.false_eq_true, Bool.false_and, ↓reduceIte]
      · by_cases e : s.2.2 16 (24 * r + (a + k)) = (zps (s.2.1 0) 3).toInt64
        · simp only [e, show lg_cmp ((zps (s.2.1 0) 3).toInt64) ((zps (s.2.1 0) 3).toInt64) = 0 from (zcmp_eq _ _).mpr rfl, z10, ↓reduceIte, decide_true, Bool.and_self]
        · simp only [show ¬ lg_cmp ((zps (s.2.1 0) 3).toInt64) (s.2.2 16 (24 * r + (a + k))) = 0 from fun z => e ((zcmp_eq _ _).mp z).symm, e, z10, ↓reduceIte, decide_false, Bool.and_false, Bool.false_eq_true]
    obtain ⟨s', q1, q2, q3, q4⟩ := ih n (k + 1) (zgo s (s.2.1 0)) (f && decide (s.2.2 16 (24 * r + (a + k)) = (zps (s.2.1 0) 3).toInt64)) (zps_ZI hi) (by omega) (by omega)
    refine ⟨s', ?_, (ZFr.go s (s.2.1 0)).trans q2, q3, q4⟩
    rw [step, q1]
    show (if (f && decide (s.2.2 16 (24 * r + (a + k)) = (zps (s.2.1 0) 3).toInt64) && ztl (fun i => s.2.2 16 (24 * r + (a + i))) m (k + 1) (zps (s.2.1 0))) = true then _ else _) = (if (f && (if s.2.2 16 (24 * r + (a + k)) = (zps (s.2.1 0) 3).toInt64 then ztl (fun i => s.2.2 16 (24 * r + (a + i))) m (k + 1) (zps (s.2.1 0)) else false)) = true then _ else _)
    by_cases e : s.2.2 16 (24 * r + (a + k)) = (zps (s.2.1 0) 3).toInt64
    · rw [if_pos e, decide_eq_true e, Bool.and_true]
    · rw [if_neg e, decide_eq_false e, Bool.and_false, Bool.false_and]
theorem ztl_cong {f g : Nat → Int64} : ∀ (m k : Nat) (w : Nat → Int32), (∀ i, k ≤ i → i < k + m → f i = g i) → ztl f m k w = ztl g m k w := by
  intro m
  induction m with
  | zero => intro k w _; rfl
  | succ m ih =>
    intro k w h
    show (if f k = _ then ztl f m (k + 1) (zps w) else false) = (if g k = _ then ztl g m (k + 1) (zps w) else false)
    rw [h k (by omega) (by omega), ih (k + 1) (zps w) (fun i h1 h2 => h i (by omega) (by omega))]
theorem q_seeL {σ0 : bb_H} {μ : bb_O} (h : ZR σ0 μ) {r a N S : Nat} (hr : r < 4) (hS : a + N ≤ S) (hS24 : S ≤ 24) (hs : (σ0 (7 + r)).1 1 = nI S) (y : Int32) : ∀ (m n k : Nat) (σ : bb_H) (s : bb_O) (A B : Int32), ZJ σ0 μ σ s → k + m = gN (μ.2.1 0) 0 * gN (μ.2.1 0) 1 → m < n → ZO (F_X4_seen_76 n σ (nI a) (nI N) y (nI r) A B (nI k)) (F_X5_seen_73 n s (nI r) (nI a) (nI N) y A B (nI k)) := by
  have hcl := h.1.2.1.cells
  intro m
  induction m with
  | zero =>
    intro n k σ s A B hj h1 h2
    obtain ⟨n, rfl⟩ : ∃ m, n = m + 1 := ⟨n - 1, by omega⟩
    obtain ⟨k1, k2⟩ := zcells2 h hj
    show ZO (G_X4_seen_76 (F_X4_seen_76 n) σ (nI a) (nI N) y (nI r) A B (nI k)) (G_X5_seen_73 (F_X5_seen_73 n) s (nI r) (nI a) (nI N) y A B (nI k))
    unfold G_X4_seen_76 G_X5_seen_73 F_X4_seen_158 F_X5_seen_207
    rw [k1, k2, Option.bind_some, Option.bind_some, if_pos (nI_le (by omega) (by omega)), if_pos (nI_le (by omega) (by omega))]
    by_cases e : y = 0
    · rw [if_pos e, if_pos e]
      exact ZO.one (hj.zr h) _
    · rw [if_neg e, if_neg e]
      exact ZO.one (hj.zr h) _
  | succ m ih =>
    intro n k σ s A B hj h1 h2
    obtain ⟨n, rfl⟩ : ∃ m, n = m + 1 := ⟨n - 1, by omega⟩
    obtain ⟨k1, k2⟩ := zcells2 h hj
    have hrr := hj.zr h
    obtain ⟨hc, hi, -⟩ := hrr.1
    have g0 : gN (s.2.1 0) 0 = gN (μ.2.1 0) 0 := by unfold gN; rw [hj.2.2.1 0 (by omega)]
    have g1 : gN (s.2.1 0) 1 = gN (μ.2.1 0) 1 := by unfold gN; rw [hj.2.2.1 1 (by omega)]
    obtain ⟨t, f1, f2⟩ := zc_take (t := σ 2) hc
    have hi2 : ZI (upd (s.2.1 0) 3 (nI k)) := ZI_of hi (fun i z => zu_n _ _ (by omega)) (zu_s _ _ _) (by rw [g0, g1]; omega)
    have e7 : σ (7 + r) = σ0 (7 + r) := hj.1 _ (by omega)
    have it : ∀ i, i < 24 → (σ (7 + r)).2.2 2 i = s.2.2 16 (24 * r + i) := (ZS_get hrr hr).2.2
    obtain ⟨c', q1⟩ := zc_tell hS hS24 N bb_N 0 (σ (7 + r)) (bb_sf t 3 (nI k)) (upd (s.2.1 0) 3 (nI k)) (RC_sf3 f2 _) hi2 (by omega) (show N < 200 by omega)
    obtain ⟨s', q2, q3, q4, q5⟩ := zm_tell hr (show a + N ≤ 24 by omega) (F_X5_seen_73 n) y A B (nI k) N bb_N 0 (bb_sA s 0 (upd (s.2.1 0) 3 (nI k))) true hi2 (by omega) (show N < 200 by omega)
    have hj' : ZJ σ0 μ (va_up (va_up (va_up (va_up (va_up σ 2 t) 0 (σ 0)) 2 (bb_sf t 3 (nI k))) (7 + r) (σ (7 + r))) 2 c') s' := by
      refine ⟨fun i hi => ?_, (hj.2.1.trans (ZFr.s0 s _)).trans q3, fun i hi => (q5 i hi).trans (hj.2.2.2 i hi), fun i hi => by rw [q4]; exact hj.2.2.2 i hi⟩
      rw [va_up_ne _ _ hi]
      by_cases e : i = 7 + r
      · rw [e, va_up_self, e7]
      · rw [va_up_ne _ _ e, va_up_ne _ _ hi, zσ2 σ t i hi, hj.1 i hi]
    have hn : ¬ nI (gN (μ.2.1 0) 0 * gN (μ.2.1 0) 1) ≤ nI k := fun z => absurd ((nI_leI (by omega) (by omega)).mp z) (by omega)
    have hre : F_X2_reaches_0 (σ (7 + r)) (nI a) (nI N) = some 1 := by
      rcases zreach (c := σ (7 + r)) (N := S) (by rw [e7]; exact hs) hS24 (nI a) (nI N) with ⟨-, f⟩ | ⟨f, -⟩
      · exact f
      · exact absurd ⟨a, N, hS, rfl, rfl⟩ f
    have hE : ztl (fun i => (σ (7 + r)).2.2 2 (a + i)) N 0 (upd (s.2.1 0) 3 (nI k)) = ztl (fun i => s.2.2 16 (24 * r + (a + i))) N 0 (upd (s.2.1 0) 3 (nI k)) := ztl_cong _ _ _ (fun i _ hi => it (a + i) (by omega))
    have q2' : F_X5_seen_96 (F_X5_seen_73 n) bb_N (bb_sA s 0 (upd (s.2.1 0) 3 (nI k))) (nI r) (nI a) (nI N) y A B (nI k) 1 0 = (if ztl (fun i => s.2.2 16 (24 * r + (a + i))) N 0 (upd (s.2.1 0) 3 (nI k)) = true then F_X5_seen_73 n s' (nI r) (nI a) (nI N) y (A + 1) (if A = 0 then nI k else B) (nI k + 1) else F_X5_seen_73 n s' (nI r) (nI a) (nI N) y A B (nI k + 1)) := q2
    show ZO (G_X4_seen_76 (F_X4_seen_76 n) σ (nI a) (nI N) y (nI r) A B (nI k)) (G_X5_seen_73 (F_X5_seen_73 n) s (nI r) (nI a) (nI N) y A B (nI k))
    unfold G_X4_seen_76 G_X5_seen_73 F_X4_seen_108 F_X5_seen_90 F_X2_tellsOf_0
    rw [k1, k2, Option.bind_some, Option.bind_some, if_neg hn, if_neg hn, f1, Option.bind_some, bb_g_pos (vp_in_nI hr (by omega)), nI_clamp (n := r) (by omega), q2']
    rw [show (va_up (va_up (va_up σ 2 (t, σ 0).1) 0 (t, σ 0).2) 2 (bb_sf ((va_up (va_up σ 2 (t, σ 0).1) 0 (t, σ 0).2) 2) 3 (nI k))) (7 + r) = σ (7 + r) by rw [va_up_ne _ _ (by omega)]; exact zσ2 σ t _ (by omega)]
    rw [show (va_up (va_up (va_up σ 2 (t, σ 0).1) 0 (t, σ 0).2) 2 (bb_sf ((va_up (va_up σ 2 (t, σ 0).1) 0 (t, σ 0).2) 2) 3 (nI k))) 2 = bb_sf t 3 (nI k) from rfl]
    rw [hre, Option.bind_some, if_neg z10, show F_X2_tellsOf_14 bb_N (σ (7 + r)) (bb_sf t 3 (nI k)) (nI a) (nI N) 0 = _ from q1, Option.bind_some, hE]
    unfold F_X4_seen_135 F_X4_seen_140
    cases ztl (fun i => s.2.2 16 (24 * r + (a + i))) N 0 (upd (s.2.1 0) 3 (nI k))
    · simp only [Bool.false_eq_true, ↓reduceIte, nI_1]
      exact ih n (k + 1) _ _ _ _ hj' (by omega) (by omega)
    · by_cases e : A = 0
      · simp only [e, z10, ↓reduceIte, nI_1]
        exact ih n (k + 1) _ _ _ _ hj' (by omega) (by omega)
      · simp only [e, z10, ↓reduceIte, nI_1]
        exact ih n (k + 1) _ _ _ _ hj' (by omega) (by omega)
theorem q_seen {σ : bb_H} {μ : bb_O} (h : ZR σ μ) (x l i n y : Int32) : ZO (F_X4_seen_0 σ x l i n y) (F_X5_seen_0 μ x l i n y) := by
  have hcl := h.1.2.1.cells
  unfold F_X4_seen_0 F_X5_seen_0 F_X4_seen_37 F_X5_seen_38 F_X5_seen_70
  rcases zsheet x with ⟨r, hr, rfl, e1, e2⟩ | ⟨e1, e2⟩
  · rcases zlane l with ⟨l, hl, rfl, e3, e4⟩ | ⟨e3, e4⟩
    · rcases zgd n 1 8 (l := 1) (h := 8) (by decide) (by decide) with ⟨h5, e5, e6⟩ | ⟨h5, e5, e6⟩
      · rcases zgd y 0 1 (l := 0) (h := 1) (by decide) (by decide) with ⟨h7, e7, e8⟩ | ⟨h7, e7, e8⟩
        · have hv : vp_in (nI r) 4 := vp_in_nI hr (by omega)
          simp only [e1, e2, e3, e4, e5, e6, e7, e8, Option.bind_some, z10, ↓reduceIte, bb_g_pos hv, nI_clamp (show r < 2 ^ 31 by omega)]
          rcases zfault h hr hl i n with ⟨S, a, b, hN, hab, rfl, rfl, k1, k2, k3, k4, k5, k6⟩ | ⟨q, hq, k5, k6⟩
          · simp only [k5, k6, Option.bind_some, show (0 : Int32) ≤ 0 from by decide, ↓reduceIte]
            obtain ⟨u, f3, f4⟩ := zm_asides μ
            rw [f3, Option.bind_some]
            exact q_seeL h hr hab hN k3 y (gN (μ.2.1 0) 0 * gN (μ.2.1 0) 1) bb_N 0 σ (bb_sA μ 10 u) 0 (-4) ⟨fun _ _ => rfl, ZFr.s10 μ u, fun _ _ => rfl, f4⟩ (by omega) (show _ < 200 by omega)
          · simp only [k5, k6, Option.bind_some, show ¬ (0 : Int32) ≤ q from Int32.not_le.mpr hq, ↓reduceIte]
            exact ZO.one h _
        · simp only [e1, e2, e3, e4, e5, e6, e7, e8, Option.bind_some, z10, ↓reduceIte]
          exact ZO.one h _
      · simp only [e1, e2, e3, e4, e5, e6, Option.bind_some, z10, ↓reduceIte]
        exact ZO.one h _
    · simp only [e1, e2, e3, e4, Option.bind_some, z10, ↓reduceIte]
      exact ZO.one h _
  · simp only [e1, e2, Option.bind_some, z10, ↓reduceIte]
    exact ZO.one h _
/-! ===== film ===== -/
theorem zcut_small : ∀ l, l < 4 → ∀ K, K < 36 → zcut l (nI K).toInt64 = (nI K).toInt64 := by decide +kernel
theorem q_filL {r l a N S : Nat} (hr : r < 4) (hl : l < 4) (hS : a + N ≤ S) (hS24 : S ≤ 24) : ∀ (m n k : Nat) (σ : bb_H) (s : bb_O), RC (σ 2) (s.2.1 0) → ZI (s.2.1 0) → (σ (7 + r)).1 0 = nI l → (σ (7 + r)).1 1 = nI S → (∀ i, i < 24 → (σ (7 + r)).2.2 2 i = s.2.2 16 (24 * r + i)) → k + m = N → m < n → ∃ σ' s' f, F_X4_film_69 n σ (nI N) (nI a) (nI r) (nI k) = some (nI N, σ') ∧ F_X5_film_54 n s (nI N) (nI r) (nI a) (nI k) = some (nI N, s') ∧ (∀ k, k ≠ 2 → k ≠ 7 + r → σ' k = σ k) ∧ (σ' (7 + r)).1 = (σ (7 + r)).1 ∧ (∀ i, i < 24 → (σ' (7 + r)).2.2 2 i = f (24 * r + i)) ∧ s'.2.2 = va_up s.2.2 16 f ∧ (∀ j, (j < 24 * r ∨ 24 * r + 24 ≤ j) → f j = s.2.2 16 j) ∧ (s'.1 4 = s.1 4 ∧ s'.1 9 = s.1 9 ∧ s'.1 12 = s.1 12 ∧ s'.1 13 = s.1 13) ∧ (∀ k, k ≠ 0 → k ≠ 10 → s'.2.1 k = s.2.1 k) ∧ ∀ i, i < 39 → s'.2.1 0 i = s.2.1 10 i := by
  intro m
  induction m with
  | zero =>
    intro n k σ s hc hi g0 g1 g2 h1 h2
    obtain ⟨n, rfl⟩ : ∃ m, n = m + 1 := ⟨n - 1, by omega⟩
    obtain ⟨u, b1, b2⟩ := zm_backs s
    refine ⟨σ, bb_sA s 0 u, s.2.2 16, ?_, ?_, fun _ _ _ => rfl, rfl, g2, (zva_same _ _).symm, fun _ _ => rfl, ⟨rfl, rfl, rfl, rfl⟩, fun _ h _ => va_up_ne _ _ h, b2⟩
    · show G_X4_film_69 (F_X4_film_69 n) σ (nI N) (nI a) (nI r) (nI k) = _
      unfold G_X4_film_69
      rw [if_pos (nI_le (by omega) (by omega))]
    · show G_X5_film_54 (F_X5_film_54 n) s (nI N) (nI r) (nI a) (nI k) = _
      unfold G_X5_film_54
      rw [if_pos (nI_le (by omega) (by omega)), b1, Option.bind_some]
  | succ m ih =>
    intro n k σ s hc hi g0 g1 g2 h1 h2
    obtain ⟨n, rfl⟩ : ∃ m, n = m + 1 := ⟨n - 1, by omega⟩
    obtain ⟨c', e4, e5⟩ := zc_pass hc hi
    have e6 := zm_goesBy (μ := s) (w := s.2.1 0) rfl hi
    have hi2 := zps_ZI hi
    have hcl := hi2.cells
    have z3 := hi2.2.2.2.1
    have ei : (24 : Int32) * nI r + nI a + nI k = nI (24 * r + (a + k)) := by rw [fa_lit 24, pk_mul, nI_add, nI_add, Nat.add_assoc]
    have hp : F_X2_put_0 (σ (7 + r)) (nI (a + k)) ((c'.1 3).toInt64) = some (bb_sB (σ (7 + r)) 2 (vp_updL ((σ (7 + r)).2.2 2) (a + k) ((zps (s.2.1 0) 3).toInt64))) := by
      rw [zput g1 hS24 hl g0 (by omega), e5.1.2.2.2.1, z3.1, zcut_small l hl _ (by omega)]
    obtain ⟨σ', s', f, q1, q2, q3, q4, q5, q6, q7, q8, q9, q10⟩ := ih n (k + 1) (va_up (va_up σ 2 c') (7 + r) (bb_sB (σ (7 + r)) 2 (vp_updL ((σ (7 + r)).2.2 2) (a + k) ((zps (s.2.1 0) 3).toInt64)))) (bb_sB (zgo s (s.2.1 0)) 16 (vp_updL (s.2.2 16) (24 * r + (a + k)) ((zps (s.2.1 0) 3).toInt64))) (by rw [va_up_ne _ _ (by omega), va_up_self]; exact e5) hi2 (by rw [va_up_self]; exact g0) (by rw [va_up_self]; exact g1) (fun i hi => by
      rw [va_up_self]
      show vp_updL ((σ (7 + r)).2.2 2) (a + k) ((zps (s.2.1 0) 3).toInt64) i = vp_updL (s.2.2 16) (24 * r + (a + k)) ((zps (s.2.1 0) 3).toInt64) (24 * r + i)
      by_cases e : i = a + k
      · rw [e, pk_uLs, pk_uLs]
      · rw [pk_uLn e, pk_uLn (by omega)]
        exact g2 i hi) (by omega) (by omega)
    refine ⟨σ', s', f, ?_, ?_, fun i h1 h2 => ?_, ?_, q5, ?_, fun j hj => ?_, q8, fun k h1 h2 => ?_, q10⟩
    · show G_X4_film_69 (F_X4_film_69 n) σ (nI N) (nI a) (nI r) (nI k) = _
      unfold G_X4_film_69
      rw [if_neg (show ¬ nI N ≤ nI k from fun z => absurd ((nI_leI (by omega) (by omega)).mp z) (by omega)), e4, Option.bind_some, bb_g_pos (vp_in_nI hr (by omega)), nI_clamp (n := r) (by omega), nI_add, nI_1]
      rw [show (va_up σ 2 (zwho (s.2.1 0), c').2) (7 + r) = σ (7 + r) from va_up_ne _ _ (by omega), show (va_up σ 2 (zwho (s.2.1 0), c').2) 2 = c' from rfl, hp, Option.bind_some]
      exact q1
    · show G_X5_film_54 (F_X5_film_54 n) s (nI N) (nI r) (nI a) (nI k) = _
      unfold G_X5_film_54 F_X5_film_65 F_X5_film_87
      rw [if_neg (show ¬ nI N ≤ nI k from fun z => absurd ((nI_leI (by omega) (by omega)).mp z) (by omega)), e6, Option.bind_some, ei, bb_g_pos (vp_in_nI (by omega) (by omega)), nI_clamp (by omega), nI_1]
      exact q2
    · rw [q3 i h1 h2, va_up_ne _ _ h2, va_up_ne _ _ h1]
    · rw [q4, va_up_self]
      rfl
    · rw [q6]
      show va_up (va_up s.2.2 16 _) 16 f = _
      rw [bx_uu]
    · rw [q7 j hj]
      exact pk_uLn (by omega)
    · rw [q9 k h1 h2]
      exact va_up_ne _ _ h1
theorem q_film {σ : bb_H} {μ : bb_O} (h : ZR σ μ) (n x l i : Int32) : ZO (F_X4_film_0 σ n x l i) (F_X5_film_0 μ n x l i) := by
  obtain ⟨hc, hi, -⟩ := h.1
  unfold F_X4_film_0 F_X5_film_0 F_X4_film_26 F_X5_film_26
  rcases zgd n 1 24 (l := 1) (h := 24) (by decide) (by decide) with ⟨h5, e5, e6⟩ | ⟨h5, e5, e6⟩
  · rcases zsheet x with ⟨r, hr, rfl, e1, e2⟩ | ⟨e1, e2⟩
    · rcases zlane l with ⟨l, hl, rfl, e3, e4⟩ | ⟨e3, e4⟩
      · have hv : vp_in (nI r) 4 := vp_in_nI hr (by omega)
        simp only [e1, e2, e3, e4, e5, e6, Option.bind_some, z10, ↓reduceIte, bb_g_pos hv, nI_clamp (show r < 2 ^ 31 by omega)]
        rcases zfault h hr hl i n with ⟨S, a, b, hN, hab, rfl, rfl, k1, k2, k3, k4, k5, k6⟩ | ⟨q, hq, k5, k6⟩
        · simp only [k5, k6, Option.bind_some, show (0 : Int32) ≤ 0 from by decide, ↓reduceIte]
          obtain ⟨t, f1, f2⟩ := zc_take (t := σ 2) hc
          obtain ⟨u, f3, f4⟩ := zm_asides μ
          have e7 : va_up (va_up σ 2 t) 0 (σ 0) (7 + r) = σ (7 + r) := zσ2 σ t _ (by omega)
          obtain ⟨z1, z2, z3⟩ := ZS_get h hr
          obtain ⟨σ', s', f, q1, q2, q3, q4, q5, q6, q7, q8, q9, q10⟩ := q_filL hr hl hab hN b bb_N 0 (va_up (va_up σ 2 t) 0 (σ 0)) (bb_sA μ 10 u) f2 hi (by rw [e7]; exact k2) (by rw [e7]; exact k3) (by rw [e7]; exact z3) (by omega) (show b < 200 by omega)
          rw [f1, f3, Option.bind_some, Option.bind_some]
          refine ⟨nI b, σ', s', q1, q2, ?_⟩
          have hz : ZR (va_up σ (7 + r) (σ' (7 + r))) (bb_sB μ 16 f) := ZR_row h hr rfl (fun _ _ => rfl) ⟨by rw [q4, e7]; exact z1, by rw [q4, e7]; exact z2, q5⟩ (fun j hj hn => ⟨rfl, rfl, fun i hi => q7 _ (by omega)⟩)
          refine ZR_fr hz (fun k hk => ?_) ⟨q8, fun k h1 h2 => (q9 k h1 h2).trans (va_up_ne _ _ h2), q6⟩ (fun i hi => (q10 i hi).trans (f4 i hi))
          by_cases e : k = 7 + r
          · rw [e, va_up_self]
          · rw [va_up_ne _ _ e, q3 k hk e]
            exact zσ2 σ t k hk
        · simp only [k5, k6, Option.bind_some, show ¬ (0 : Int32) ≤ q from Int32.not_le.mpr hq, ↓reduceIte]
          exact ZO.one h _
      · simp only [e1, e2, e3, e4, e5, e6, Option.bind_some, z10, ↓reduceIte]
        exact ZO.one h _
    · simp only [e1, e2, e5, e6, Option.bind_some, z10, ↓reduceIte]
      exact ZO.one h _
  · simp only [e5, e6, Option.bind_some, z10, ↓reduceIte]
    exact ZO.one h _
