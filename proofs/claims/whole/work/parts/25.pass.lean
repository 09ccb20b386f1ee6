/-! ===== features ===== -/
def zpc (j : Nat) : Nat := j % 2 + j / 2 % 2 + j / 4 % 2 + j / 8 % 2 + j / 16 % 2 + j / 32 % 2
set_option maxRecDepth 100000 in
theorem zc_bc : ∀ j, j < 64 → F_J6_bitCount_0f7a4_0 (nI j) = some (nI (zpc j)) := by decide +kernel
set_option maxRecDepth 100000 in
theorem zm_many : ∀ j, j < 64 → F_X5_many_0 (nI j) = some (nI (zpc j)) := by decide +kernel
theorem zpc_le (j : Nat) : zpc j ≤ 6 := by unfold zpc; omega
theorem zx64 {a b : Nat} (ha : a < 64) (hb : b < 64) : a ^^^ b < 64 := Nat.xor_lt_two_pow (n := 6) ha hb
def znam (w : Nat → Int32) (f : Nat) : Nat → Nat → Nat → Nat
  | 0, _, b => b
  | r + 1, q, b => if zpc (gN w (12 + 5 * q) ^^^ f) < zpc (gN w (12 + 5 * b) ^^^ f) then znam w f r (q + 1) q else znam w f r (q + 1) b
def znamed (w : Nat → Int32) (f : Nat) : Nat := znam w f (gN w 2 - 1) 1 0
theorem znam_lt (w : Nat → Int32) (f : Nat) : ∀ (r q b : Nat), b < q + r → znam w f r q b < q + r := by
  intro r
  induction r with
  | zero => intro q b h; exact h
  | succ r ih =>
    intro q b h
    rw [znam]
    split
    · have := ih (q + 1) q (by omega); omega
    · have := ih (q + 1) b (by omega); omega
theorem znam_cong {w v : Nat → Int32} (h : ∀ i, 9 ≤ i → v i = w i) (f : Nat) : ∀ (r q b : Nat), znam v f r q b = znam w f r q b := by
  have hg : ∀ q, gN v (12 + 5 * q) = gN w (12 + 5 * q) := fun q => by unfold gN; rw [h _ (by omega)]
  intro r
  induction r with
  | zero => intro q b; rfl
  | succ r ih => intro q b; rw [znam, znam, hg, hg, ih, ih]
theorem znamed_cong {w v : Nat → Int32} (h : ∀ i, 9 ≤ i → v i = w i) (h2 : v 2 = w 2) (f : Nat) : znamed v f = znamed w f := by
  unfold znamed
  rw [show gN v 2 = gN w 2 by unfold gN; rw [h2], znam_cong h]
theorem zc_namL {c : bb_O} {w : Nat → Int32} (hc : RC c w) (hi : ZI w) {f : Nat} (hf : f < 64) : ∀ (r n q b : Nat), q + r = gN w 2 → r < n → b < gN w 2 → F_X0_namedBy_9 c n (nI f) (nI b) (nI (zpc (gN w (12 + 5 * b) ^^^ f))) (nI q) = some (nI (znam w f r q b)) := by
  have hp6 := hi.2.2.1.2
  intro r
  induction r with
  | zero =>
    intro n q b h1 h2 h3
    obtain ⟨n, rfl⟩ : ∃ k, n = k + 1 := ⟨n - 1, by omega⟩
    show G_X0_namedBy_9 c (F_X0_namedBy_9 c n) _ _ _ _ = _
    unfold G_X0_namedBy_9
    rw [hc.1.2.2.1, hi.2.2.1.1, if_pos ((nI_leI (a := gN w 2) (b := q) (by omega) (by omega)).mpr (by omega))]
    rfl
  | succ r ih =>
    intro n q b h1 h2 h3
    obtain ⟨n, rfl⟩ : ∃ k, n = k + 1 := ⟨n - 1, by omega⟩
    show G_X0_namedBy_9 c (F_X0_namedBy_9 c n) _ _ _ _ = _
    unfold G_X0_namedBy_9 F_X0_namedBy_44
    obtain ⟨-, -, -, ⟨hlk, hlk2⟩, -⟩ := hi.2.2.2.2 q (by omega)
    have e1 := zpc_le (gN w (12 + 5 * q) ^^^ f)
    have e2 := zpc_le (gN w (12 + 5 * b) ^^^ f)
    rw [hc.1.2.2.1, hi.2.2.1.1, if_neg (fun z => absurd ((nI_leI (a := gN w 2) (b := q) (by omega) (by omega)).mp z) (by omega)), bb_g_pos (vp_in_nI (by omega) (by omega)), nI_clamp (by omega), (hc.2 q (by omega)).2.2.2.1, hlk, nx_xor, zc_bc _ (zx64 hlk2 hf), Option.bind_some, nI_1]
    rw [znam]
    by_cases h : zpc (gN w (12 + 5 * q) ^^^ f) < zpc (gN w (12 + 5 * b) ^^^ f)
    · rw [if_neg (fun z => absurd ((nI_leI (by omega) (by omega)).mp z) (by omega)), if_pos h]
      exact ih n (q + 1) q (by omega) (by omega) (by omega)
    · rw [if_pos ((nI_leI (by omega) (by omega)).mpr (by omega)), if_neg h]
      exact ih n (q + 1) b (by omega) (by omega) h3
theorem zc_named {c : bb_O} {w : Nat → Int32} (hc : RC c w) (hi : ZI w) {f : Nat} (hf : f < 64) (h1 : 0 < gN w 2) : F_X0_namedBy_0 c (nI f) = some (nI (znamed w f)) := by
  have hp6 := hi.2.2.1.2
  show G_X0_namedBy_9 c (F_X0_namedBy_9 c 199) (nI f) (-4) 7 (nI 0) = _
  unfold G_X0_namedBy_9 F_X0_namedBy_44
  obtain ⟨-, -, -, ⟨hlk, hlk2⟩, -⟩ := hi.2.2.2.2 0 (by omega)
  have e1 := zpc_le (gN w (12 + 5 * 0) ^^^ f)
  rw [hc.1.2.2.1, hi.2.2.1.1, if_neg (fun z => absurd ((nI_leI (a := gN w 2) (b := 0) (by omega) (by omega)).mp z) (by omega)), bb_g_pos (vp_in_nI (by omega) (by omega)), nI_clamp (by omega), (hc.2 0 (by omega)).2.2.2.1, hlk, nx_xor, zc_bc _ (zx64 hlk2 hf), Option.bind_some, nI_1]
  rw [if_neg (show ¬ (7 : Int32) ≤ nI (zpc (gN w (12 + 5 * 0) ^^^ f)) from fun z => absurd ((nI_leI (a := 7) (b := zpc (gN w (12 + 5 * 0) ^^^ f)) (by decide) (by omega)).mp z) (by omega))]
  exact zc_namL hc hi hf (gN w 2 - 1) 199 1 0 (by omega) (by omega) (by omega)
theorem zc_feel {c : bb_O} {w : Nat → Int32} (hc : RC c w) (hi : ZI w) {p : Nat} (hp : p < gN w 2) : F_X0_feel_0 c (nI p) = some (nI (gN w (12 + 5 * p) ^^^ gN w (13 + 5 * p))) := by
  have hp6 := hi.2.2.1.2
  obtain ⟨-, -, -, ⟨hlk, hlk2⟩, ⟨hdg, hdg2⟩⟩ := hi.2.2.2.2 p hp
  have hv : vp_in (nI p) 6 := vp_in_nI (by omega) (by omega)
  unfold F_X0_feel_0
  rw [bb_g_pos hv, bb_g_pos hv, nI_clamp (by omega), (hc.2 p (by omega)).2.2.2.1, (hc.2 p (by omega)).2.2.2.2, hlk, hdg, nx_xor]
theorem zm_namL {μ : bb_O} {w : Nat → Int32} (hw : μ.2.1 0 = w) (hi : ZI w) {p d : Nat} (hp : p < gN w 2) (hd : d < 64) : ∀ (r n q b : Nat), q + r = gN w 2 → r < n → b < gN w 2 → F_X5_named_5 μ n (nI p) (nI d) (nI b) (nI q) = some (nI (znam w (gN w (12 + 5 * p) ^^^ d) r q b)) := by
  have hp6 := hi.2.2.1.2
  have ht : ∀ q, q < gN w 2 → F_X5_told_0 μ (nI q) 3 = some (nI (gN w (12 + 5 * q))) := fun q hq => by
    rw [show (3 : Int32) = nI 3 from rfl, zm_told hw (by omega) (by omega), show 9 + 5 * q + 3 = 12 + 5 * q by omega, (hi.2.2.2.2 q hq).2.2.2.1.1]
  obtain ⟨-, -, -, ⟨-, hlp⟩, -⟩ := hi.2.2.2.2 p hp
  have hf := zx64 hlp hd
  intro r
  induction r with
  | zero =>
    intro n q b h1 h2 h3
    obtain ⟨n, rfl⟩ : ∃ k, n = k + 1 := ⟨n - 1, by omega⟩
    show G_X5_named_5 μ (F_X5_named_5 μ n) _ _ _ _ = _
    unfold G_X5_named_5
    rw [hw, hi.2.2.1.1, if_pos ((nI_leI (a := gN w 2) (b := q) (by omega) (by omega)).mpr (by omega))]
    rfl
  | succ r ih =>
    intro n q b h1 h2 h3
    obtain ⟨n, rfl⟩ : ∃ k, n = k + 1 := ⟨n - 1, by omega⟩
    show G_X5_named_5 μ (F_X5_named_5 μ n) _ _ _ _ = _
    unfold G_X5_named_5 F_X5_named_60
    obtain ⟨-, -, -, ⟨-, hlq⟩, -⟩ := hi.2.2.2.2 q (by omega)
    obtain ⟨-, -, -, ⟨-, hlb⟩, -⟩ := hi.2.2.2.2 b h3
    have e1 := zpc_le (gN w (12 + 5 * q) ^^^ (gN w (12 + 5 * p) ^^^ d))
    have e2 := zpc_le (gN w (12 + 5 * b) ^^^ (gN w (12 + 5 * p) ^^^ d))
    rw [hw, hi.2.2.1.1, if_neg (fun z => absurd ((nI_leI (a := gN w 2) (b := q) (by omega) (by omega)).mp z) (by omega)), ht p hp, Option.bind_some, ht q (by omega), Option.bind_some, nx_xor, nx_xor, zm_many _ (zx64 hlq hf), Option.bind_some, ht b h3, Option.bind_some, nx_xor, zm_many _ (zx64 hlb hf), Option.bind_some, nI_1]
    rw [znam]
    by_cases h : zpc (gN w (12 + 5 * q) ^^^ (gN w (12 + 5 * p) ^^^ d)) < zpc (gN w (12 + 5 * b) ^^^ (gN w (12 + 5 * p) ^^^ d))
    · rw [if_neg (fun z => absurd ((nI_leI (by omega) (by omega)).mp z) (by omega)), if_pos h]
      exact ih n (q + 1) q (by omega) (by omega) (by omega)
    · rw [if_pos ((nI_leI (by omega) (by omega)).mpr (by omega)), if_neg h]
      exact ih n (q + 1) b (by omega) (by omega) h3
theorem zm_named {μ : bb_O} {w : Nat → Int32} (hw : μ.2.1 0 = w) (hi : ZI w) {p d : Nat} (hp : p < gN w 2) (hd : d < 64) : F_X5_named_0 μ (nI p) (nI d) = some (nI (znamed w (gN w (12 + 5 * p) ^^^ d))) := by
  have hp6 := hi.2.2.1.2
  exact zm_namL hw hi hp hd (gN w 2 - 1) bb_N 1 0 (by omega) (by unfold bb_N; omega) (by omega)
/-! ===== a step nearer ===== -/
def znear (C K t : Nat) : Nat := if t / C = K / C then (if K < t then K + 1 else if t < K then K - 1 else K) else if K / C < t / C then K + C else K - C
theorem znear_lt {R C K t : Nat} (hC : 0 < C) (hK : K < R * C) (ht : t < R * C) : znear C K t < R * C := by
  have a1 := Nat.div_add_mod K C
  have a2 := Nat.div_add_mod t C
  have m1 := Nat.mod_lt K hC
  have m2 := Nat.mod_lt t hC
  unfold znear
  split
  · split
    · omega
    · split <;> omega
  · split
    · rename_i h1 h2
      have h3 : t / C < R := Nat.div_lt_of_lt_mul (by rw [Nat.mul_comm]; exact ht)
      have h4 : C * (K / C + 1) ≤ C * (t / C) := Nat.mul_le_mul_left C h2
      have h5 : C * (K / C + 1) = C * (K / C) + C := by rw [Nat.mul_add, Nat.mul_one]
      have h6 : C * (t / C + 1) ≤ C * R := Nat.mul_le_mul_left C h3
      have h7 : C * (t / C + 1) = C * (t / C) + C := by rw [Nat.mul_add, Nat.mul_one]
      rw [Nat.mul_comm R C]
      omega
    · omega
theorem zsub0 {a b : Nat} (ha : a < 2 ^ 30) (hb : b < 2 ^ 30) : nI a - nI b = 0 ↔ a = b := by
  rw [fa_eq, pk_sub_toInt ha hb, Int32.toInt_zero]
  omega
theorem zsubn {a b : Nat} (ha : a < 2 ^ 30) (hb : b < 2 ^ 30) : nI a - nI b ≤ 0 ↔ a ≤ b := by
  rw [fa_le, pk_sub_toInt ha hb, Int32.toInt_zero]
  omega
theorem zm1 {a : Nat} (h : 0 < a) : nI a + (-1) = nI (a - 1) := sb_m1 h
theorem zc_near {c : bb_O} {w : Nat → Int32} (hc : RC c w) (hi : ZI w) {t : Nat} (ht : t < gN w 0 * gN w 1) : F_X0_nearerTo_0 c (nI t) = some (nI (znear (gN w 1) (gN w 3) t)) := by
  have hm := hi.cells
  obtain ⟨h0, h1, h2, h3, h4⟩ := hi
  have hc1 : c.1 1 = nI (gN w 1) := by rw [hc.1.2.1]; exact h1.1
  have hc3 : c.1 3 = nI (gN w 3) := by rw [hc.1.2.2.2.1]; exact h3.1
  unfold F_X0_nearerTo_0 F_X0_nearerTo_44 F_J6_compare_7cf53_0 F_J6_compare_7cf53_19
  rw [hc3, zc_rowOf hc1 h1.2.1 h1.2.2 (by omega), Option.bind_some, zc_rowOf hc1 h1.2.1 h1.2.2 (by omega), Option.bind_some, hc1]
  have d1 := Nat.div_le_self t (gN w 1)
  have d2 := Nat.div_le_self (gN w 3) (gN w 1)
  unfold znear
  by_cases e : t / gN w 1 = gN w 3 / gN w 1
  · rw [if_pos ((zsub0 (by omega) (by omega)).mpr e), if_pos e]
    by_cases l : gN w 3 ≤ t
    · rw [if_pos ((nI_leI (by omega) (by omega)).mpr l)]
      by_cases q : t = gN w 3
      · rw [if_pos (by rw [q]), Option.bind_some, if_neg (by omega), if_neg (by omega), Int32.add_zero]
      · rw [if_neg (fun z => q ((nI_eq (by omega) (by omega)).mp z)), Option.bind_some, if_pos (by omega), nI_1]
    · rw [if_neg (fun z => l ((nI_leI (by omega) (by omega)).mp z)), Option.bind_some, if_neg (by omega), if_pos (by omega), zm1 (by omega)]
  · rw [if_neg (fun z => e ((zsub0 (by omega) (by omega)).mp z)), if_neg e]
    by_cases l : gN w 3 / gN w 1 < t / gN w 1
    · rw [if_neg (fun z => absurd ((zsubn (by omega) (by omega)).mp z) (by omega)), if_pos l, nI_add]
    · have hge : gN w 1 ≤ gN w 3 := by
        rcases Nat.lt_or_ge (gN w 3) (gN w 1) with q | q
        · rw [Nat.div_eq_of_lt q] at l e
          exact absurd (Nat.pos_of_ne_zero e) l
        · exact q
      rw [if_pos ((zsubn (by omega) (by omega)).mpr (by omega)), if_neg l, zs_le hge]
theorem zm_nearer {a b : Nat} (ha : a < 2 ^ 31) (hb : b < 2 ^ 31) : F_X5_nearer_0 (nI a) (nI b) = some (if a < b then 1 else if b < a then -1 else 0) := by
  unfold F_X5_nearer_0 F_X5_nearer_19
  by_cases h : b ≤ a
  · rw [if_pos ((nI_leI hb ha).mpr h), if_neg (show ¬ a < b by omega)]
    by_cases h2 : a ≤ b
    · rw [if_pos ((nI_leI ha hb).mpr h2), if_neg (show ¬ b < a by omega)]
    · rw [if_neg (fun z => h2 ((nI_leI ha hb).mp z)), if_pos (show b < a by omega)]
  · rw [if_neg (fun z => h ((nI_leI hb ha).mp z)), if_pos (show a < b by omega)]
/-- the model's step: the number that it puts -/
theorem znear_m {C K t : Nat} (hC : 0 < C) (hK : K < 2 ^ 30) : nI K + (if K / C < t / C then 1 else if t / C < K / C then -1 else 0) * nI C = (if K / C < t / C ∨ t / C < K / C then nI (znear C K t) else nI K) := by
  by_cases h1 : K / C < t / C
  · rw [if_pos h1, if_pos (Or.inl h1), Int32.one_mul, nI_add, znear, if_neg (by omega), if_pos h1]
  · by_cases h2 : t / C < K / C
    · have hge : C ≤ K := by
        rcases Nat.lt_or_ge K C with q | q
        · rw [Nat.div_eq_of_lt q] at h2
          exact absurd h2 (Nat.not_lt_zero _)
        · exact q
      rw [if_neg h1, if_pos h2, if_pos (Or.inr h2), znear, if_neg (by omega), if_neg h1, ← zs_le hge, Int32.neg_mul, Int32.one_mul, Int32.sub_eq_add_neg]
    · rw [if_neg h1, if_neg h2, if_neg (by omega), Int32.zero_mul, Int32.add_zero]
theorem znear_row {C K t : Nat} (hC : 0 < C) (e : t / C = K / C) (hK : K < 2 ^ 30) : nI K + (if K % C < t % C then 1 else if t % C < K % C then -1 else 0) = nI (znear C K t) := by
  have a1 := Nat.div_add_mod K C
  have a2 := Nat.div_add_mod t C
  rw [e] at a2
  rw [znear, if_pos e]
  by_cases h1 : K % C < t % C
  · rw [if_pos h1, if_pos (by omega), nI_1]
  · by_cases h2 : t % C < K % C
    · rw [if_neg h1, if_pos h2, if_neg (by omega), if_pos (by omega), zm1 (by omega)]
    · rw [if_neg h1, if_neg h2, if_neg (by omega), if_neg (by omega), Int32.add_zero]
/-! ===== the first on his cell ===== -/
def zfst (w : Nat → Int32) : Nat → Nat → Int32
  | 0, _ => -4
  | r + 1, p => if bt (w 5) p = false ∧ w (10 + 5 * p) = w 3 then nI p else zfst w r (p + 1)
theorem zc_fstL {c : bb_O} {w : Nat → Int32} (hc : RC c w) (hi : ZI w) : ∀ (r n p : Nat), p + r = gN w 2 → r < n → F_X0_firstOnHisCell_2 c n (nI p) = some (zfst w r p) := by
  have hp6 := hi.2.2.1.2
  intro r
  induction r with
  | zero =>
    intro n p h1 h2
    obtain ⟨n, rfl⟩ : ∃ k, n = k + 1 := ⟨n - 1, by omega⟩
    show G_X0_firstOnHisCell_2 c (F_X0_firstOnHisCell_2 c n) _ = _
    unfold G_X0_firstOnHisCell_2
    rw [hc.1.2.2.1, hi.2.2.1.1, if_pos ((nI_leI (a := gN w 2) (b := p) (by omega) (by omega)).mpr (by omega))]
    rfl
  | succ r ih =>
    intro n p h1 h2
    obtain ⟨n, rfl⟩ : ∃ k, n = k + 1 := ⟨n - 1, by omega⟩
    show G_X0_firstOnHisCell_2 c (F_X0_firstOnHisCell_2 c n) _ = _
    unfold G_X0_firstOnHisCell_2 F_X0_firstOnHisCell_33
    rw [hc.1.2.2.1, hi.2.2.1.1, if_neg (fun z => absurd ((nI_leI (a := gN w 2) (b := p) (by omega) (by omega)).mp z) (by omega)), zc_isFree hc (by omega), Option.bind_some, bb_g_pos (vp_in_nI (by omega) (by omega)), nI_clamp (by omega), (hc.2 p (by omega)).2.1, hc.1.2.2.2.1, nI_1, ih n (p + 1) (by omega) (by omega), zfst]
    by_cases hf : bt (w 5) p = false
    · rw [if_pos hf, if_neg (by decide)]
      by_cases he : w (10 + 5 * p) = w 3
      · rw [if_pos he, if_pos ⟨hf, he⟩]
      · rw [if_neg he, if_neg (fun z => he z.2)]
    · rw [if_neg hf, if_pos rfl, if_neg (fun z => hf z.1)]
theorem zc_fst {c : bb_O} {w : Nat → Int32} (hc : RC c w) (hi : ZI w) : F_X0_firstOnHisCell_0 c = some (zfst w (gN w 2) 0) := by
  have hp6 := hi.2.2.1.2
  exact zc_fstL hc hi (gN w 2) bb_N 0 (by omega) (by unfold bb_N; omega)
theorem zfst_is (w : Nat → Int32) : ∀ (r p : Nat), zfst w r p = -4 ∨ ∃ j, p ≤ j ∧ j < p + r ∧ zfst w r p = nI j ∧ bt (w 5) j = false := by
  intro r
  induction r with
  | zero => intro p; exact Or.inl rfl
  | succ r ih =>
    intro p
    rw [zfst]
    split
    · rename_i h; exact Or.inr ⟨p, by omega, by omega, rfl, h.1⟩
    · rcases ih (p + 1) with h | ⟨j, h1, h2, h3, h4⟩
      · exact Or.inl h
      · exact Or.inr ⟨j, by omega, by omega, h3, h4⟩
theorem zup_same (f : Nat → Int32) (i : Nat) : upd f i (f i) = f := fa_upd_same rfl
theorem zsf2 (s : bb_O) (k : Nat) (x y : Int32) : bb_sf (bb_sf s k x) k y = bb_sf s k y := by
  unfold bb_sf
  rw [fa_upd_twice]
theorem zsf_same (s : bb_O) (k : Nat) : bb_sf s k (s.1 k) = s := by
  unfold bb_sf
  rw [zup_same]
theorem zsA2 (s : bb_O) (k : Nat) (f g : Nat → Int32) : bb_sA (bb_sA s k f) k g = bb_sA s k g := by
  unfold bb_sA
  rw [bx_uu]
theorem zm_fstL {w : Nat → Int32} (hi : ZI w) : ∀ (j n : Nat) (s : bb_O), j ≤ gN w 2 → j < n → s.2.1 0 = w → s.1 1 = zfst w (gN w 2 - j) j → F_X5_goesBy_92 n s (nI j + (-1)) = F_X5_goesBy_147 (bb_sA (bb_sf s 1 (zfst w (gN w 2) 0)) 0 (upd w 4 (w 4 + 1))) := by
  have hp6 := hi.2.2.1.2
  intro j
  induction j with
  | zero =>
    intro n s h1 h2 hw hl
    obtain ⟨n, rfl⟩ : ∃ k, n = k + 1 := ⟨n - 1, by omega⟩
    show G_X5_goesBy_92 (F_X5_goesBy_92 n) s _ = _
    unfold G_X5_goesBy_92
    rw [if_pos (show nI 0 + (-1) < 0 by decide), hw]
    rw [show bb_sf s 1 (zfst w (gN w 2) 0) = s by rw [Nat.sub_zero] at hl; rw [← hl, zsf_same]]
  | succ j ih =>
    intro n s h1 h2 hw hl
    obtain ⟨n, rfl⟩ : ∃ k, n = k + 1 := ⟨n - 1, by omega⟩
    show G_X5_goesBy_92 (F_X5_goesBy_92 n) s _ = _
    unfold G_X5_goesBy_92 F_X5_goesBy_124 F_X5_goesBy_128 F_X5_goesBy_131
    rw [pk_m1, if_neg (nI_pos (by omega)), zm_isFree hw (by omega), Option.bind_some, show (1 : Int32) = nI 1 from rfl, zm_told hw (by omega) (by omega), Option.bind_some, hw, show 9 + 5 * j + 1 = 10 + 5 * j by omega]
    have step : ∀ v, v = zfst w (gN w 2 - j) j → F_X5_goesBy_92 n (bb_sf s 1 v) (nI j + (-1)) = F_X5_goesBy_147 (bb_sA (bb_sf s 1 (zfst w (gN w 2) 0)) 0 (upd w 4 (w 4 + nI 1))) := fun v hv => by
      rw [ih n (bb_sf s 1 v) (by omega) (by omega) hw (by rw [← hv]; rfl), zsf2]
      rfl
    have hz : zfst w (gN w 2 - j) j = if bt (w 5) j = false ∧ w (10 + 5 * j) = w 3 then nI j else zfst w (gN w 2 - (j + 1)) (j + 1) := by
      rw [show gN w 2 - j = (gN w 2 - (j + 1)) + 1 by omega, zfst]
    by_cases hf : bt (w 5) j = false
    · rw [if_pos hf, if_neg (by decide)]
      by_cases he : w (10 + 5 * j) = w 3
      · rw [if_pos he]
        exact step _ (by rw [hz, if_pos ⟨hf, he⟩])
      · rw [if_neg he]
        exact step _ (by rw [hz, if_neg (fun z => he z.2)]; exact hl)
    · rw [if_neg hf, if_pos (by decide)]
      exact step _ (by rw [hz, if_neg (fun z => hf z.1)]; exact hl)
