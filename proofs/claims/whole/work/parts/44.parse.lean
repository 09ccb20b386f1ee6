/-! ===== reading the tape ===== -/
def zsp (g : Nat → Nat) : Nat → Nat → Nat
  | 0, x => x
  | r + 1, x => if g x = 32 then zsp g r (x + 1) else x
def zpk (g : Nat → Nat) (t x : Nat) : Nat := zsp g (t - x) x
def zch (g : Nat → Nat) (t x : Nat) : Nat := if zpk g t x < t then g (zpk g t x) else 0
theorem zsp_le (g : Nat → Nat) : ∀ (r x : Nat), x ≤ zsp g r x ∧ zsp g r x ≤ x + r := by
  intro r
  induction r with
  | zero => intro x; exact ⟨Nat.le_refl _, Nat.le_refl _⟩
  | succ r ih =>
    intro x
    show x ≤ (if g x = 32 then zsp g r (x + 1) else x) ∧ (if g x = 32 then zsp g r (x + 1) else x) ≤ x + (r + 1)
    by_cases e : g x = 32
    · rw [if_pos e]
      have := ih (x + 1)
      omega
    · rw [if_neg e]
      omega
theorem zsp_stop (g : Nat → Nat) : ∀ (r x : Nat), zsp g r x < x + r → g (zsp g r x) ≠ 32 := by
  intro r
  induction r with
  | zero => intro x h; exact absurd h (by show ¬ x < x + 0; omega)
  | succ r ih =>
    intro x
    show (if g x = 32 then zsp g r (x + 1) else x) < x + (r + 1) → g (if g x = 32 then zsp g r (x + 1) else x) ≠ 32
    by_cases e : g x = 32
    · rw [if_pos e]
      intro h
      exact ih (x + 1) (by omega)
    · rw [if_neg e]
      intro _
      exact e
theorem zpk_le (g : Nat → Nat) {t x : Nat} (hx : x ≤ t) : x ≤ zpk g t x ∧ zpk g t x ≤ t := by
  have := zsp_le g (t - x) x
  unfold zpk
  omega
theorem zpk_idem (g : Nat → Nat) {t x : Nat} (hx : x ≤ t) : zpk g t (zpk g t x) = zpk g t x := by
  have h := zpk_le g hx
  by_cases e : zpk g t x = t
  · rw [e]
    unfold zpk
    rw [Nat.sub_self]
    rfl
  · have hs : g (zpk g t x) ≠ 32 := zsp_stop g (t - x) x (by
      show zpk g t x < _
      omega)
    show zsp g (t - zpk g t x) (zpk g t x) = zpk g t x
    obtain ⟨r, hr⟩ : ∃ r, t - zpk g t x = r + 1 := ⟨t - zpk g t x - 1, by omega⟩
    rw [hr]
    exact if_neg hs
theorem zch_idem (g : Nat → Nat) {t x : Nat} (hx : x ≤ t) : zch g t (zpk g t x) = zch g t x := by
  unfold zch
  rw [zpk_idem g hx]
theorem zch_of {g : Nat → Nat} {t x y : Nat} (h : zpk g t x = zpk g t y) : zch g t x = zch g t y := by
  unfold zch
  rw [h]
def ZG (g : Nat → Nat) (t : Nat) : Prop := t ≤ 90 ∧ ∀ i, i < t → 32 ≤ g i ∧ g i ≤ 126
theorem ZG.ch {g : Nat → Nat} {t : Nat} (h : ZG g t) (x : Nat) : zch g t x < 127 := by
  unfold zch
  by_cases e : zpk g t x < t
  · rw [if_pos e]
    have := h.2 _ e
    omega
  · rw [if_neg e]
    omega
def ZC (g : Nat → Nat) (t : Nat) (T : bb_O) (x : Nat) : Prop := T.1 1 = nI t ∧ T.1 2 = nI x ∧ ∀ i, i < t → T.2.1 0 i = nI (g i)
def ZM (g : Nat → Nat) (t : Nat) (s : bb_O) (x : Nat) : Prop := s.1 4 = nI t ∧ s.1 5 = nI x ∧ s.1 6 = 0 ∧ ∀ i, i < t → s.2.1 3 i = nI (g i)
def ZN (s : bb_O) (x : Nat) : Prop := s.1 5 = nI x ∧ s.1 6 = 1
/-- only the reading's own numbers are other -/
def ZH (s s' : bb_O) : Prop := (∀ k, k ≠ 5 → k ≠ 6 → s'.1 k = s.1 k) ∧ s'.2 = s.2
theorem ZH.refl (s : bb_O) : ZH s s := ⟨fun _ _ _ => rfl, rfl⟩
theorem ZH.trans {a b c : bb_O} (h : ZH a b) (g : ZH b c) : ZH a c := ⟨fun k h1 h2 => (g.1 k h1 h2).trans (h.1 k h1 h2), g.2.trans h.2⟩
theorem ZH.f5 (s : bb_O) (x : Int32) : ZH s (bb_sf s 5 x) := ⟨fun _ h _ => zu_n _ _ h, rfl⟩
theorem ZH.f6 (s : bb_O) (x : Int32) : ZH s (bb_sf s 6 x) := ⟨fun _ _ h => zu_n _ _ h, rfl⟩
theorem zbc : ∀ c, c < 127 → bb_c (nI c) := by
  have h : ∀ c, c < 127 → ((nI c).toUInt32 % 65536).toInt32 = nI c := by decide +kernel
  exact h
theorem zc_pkL {g : Nat → Nat} {t : Nat} (hg : ZG g t) : ∀ (r n x : Nat) (T : bb_O), ZC g t T x → x + r = t → r < n → F_X3_peek_0 n T = some (if zsp g r x < t then nI (g (zsp g r x)) else 0, bb_sf T 2 (nI (zsp g r x))) := by
  have h90 := hg.1
  intro r
  induction r with
  | zero =>
    intro n x T hC h1 h2
    obtain ⟨n, rfl⟩ : ∃ m, n = m + 1 := ⟨n - 1, by omega⟩
    show G_X3_peek_0 (F_X3_peek_0 n) T = some (if x < t then nI (g x) else 0, bb_sf T 2 (nI x))
    unfold G_X3_peek_0 F_X3_peek_47 F_X3_peek_79 F_X3_peek_80
    rw [← hC.2.1, zsf_same, hC.1, hC.2.1, if_pos (nI_le (by omega) (by omega)), if_pos (nI_le (by omega) (by omega)), if_neg (show ¬ x < t by omega), bb_g_pos (show bb_c 0 from zbc 0 (by omega))]
  | succ r ih =>
    intro n x T hC h1 h2
    obtain ⟨n, rfl⟩ : ∃ m, n = m + 1 := ⟨n - 1, by omega⟩
    have hgx := hg.2 x (by omega)
    have hn : ¬ nI t ≤ nI x := fun z => absurd ((nI_leI (by omega) (by omega)).mp z) (by omega)
    have hn2 : ¬ (90 : Int32) ≤ nI x := fun z => absurd ((nI_leI (a := 90) (b := x) (by decide) (by omega)).mp z) (by omega)
    have hv : vp_in (nI x) 90 := vp_in_nI (by omega) (by omega)
    show G_X3_peek_0 (F_X3_peek_0 n) T = some (if (if g x = 32 then zsp g r (x + 1) else x) < t then nI (g (if g x = 32 then zsp g r (x + 1) else x)) else 0, bb_sf T 2 (nI (if g x = 32 then zsp g r (x + 1) else x)))
    unfold G_X3_peek_0 F_X3_peek_47 F_X3_peek_79 F_X3_peek_80
    rw [hC.1, hC.2.1, if_neg hn, if_neg hn2, bb_g_pos hv, nI_clamp (by omega), hC.2.2 x (by omega), nI_1, if_neg hn, if_neg hn2, bb_g_pos hv, bb_g_pos (zbc _ (by omega))]
    by_cases e : g x = 32
    · rw [if_pos (show nI (g x) = 32 by rw [e]; rfl), if_pos e]
      rw [ih n (x + 1) (bb_sf T 2 (nI (x + 1))) ⟨hC.1, rfl, hC.2.2⟩ (by omega) (by omega), zsf2]
    · rw [if_neg (show ¬ nI (g x) = (32 : Int32) from fun z => e ((nI_eq (a := g x) (b := 32) (by omega) (by decide)).mp z)), if_neg e, if_pos (show x < t by omega), ← hC.2.1, zsf_same]
theorem zc_peek {g : Nat → Nat} {t x : Nat} (hg : ZG g t) {T : bb_O} (hC : ZC g t T x) (hx : x ≤ t) : F_X3_peek_e T = some (nI (zch g t x), bb_sf T 2 (nI (zpk g t x))) := by
  unfold F_X3_peek_e
  rw [zc_pkL hg (t - x) bb_N x T hC (by omega) (show t - x < 200 by have := hg.1; omega)]
  unfold zch
  show some (if zpk g t x < t then nI (g (zpk g t x)) else 0, _) = _
  by_cases e : zpk g t x < t
  · rw [if_pos e, if_pos e]
    rfl
  · rw [if_neg e, if_neg e]
    rfl
theorem zm_hrL {g : Nat → Nat} {t : Nat} (hg : ZG g t) : ∀ (r n x : Nat) (s : bb_O), ZM g t s x → x + r = t → r < n → F_X5_here_0 n s = some (if zsp g r x < t then nI (g (zsp g r x)) else 0, bb_sf s 5 (nI (zsp g r x))) := by
  have h90 := hg.1
  intro r
  induction r with
  | zero =>
    intro n x s hM h1 h2
    obtain ⟨n, rfl⟩ : ∃ m, n = m + 1 := ⟨n - 1, by omega⟩
    show G_X5_here_0 (F_X5_here_0 n) s = some (if x < t then nI (g x) else 0, bb_sf s 5 (nI x))
    unfold G_X5_here_0 F_X5_here_38 F_X5_here_62
    rw [← hM.2.1, zsf_same, hM.1, hM.2.1, if_pos (nI_le (by omega) (by omega)), if_pos (nI_le (by omega) (by omega)), if_neg (show ¬ x < t by omega)]
  | succ r ih =>
    intro n x s hM h1 h2
    obtain ⟨n, rfl⟩ : ∃ m, n = m + 1 := ⟨n - 1, by omega⟩
    have hgx := hg.2 x (by omega)
    have hn : ¬ nI t ≤ nI x := fun z => absurd ((nI_leI (by omega) (by omega)).mp z) (by omega)
    have hv : vp_in (nI x) 90 := vp_in_nI (by omega) (by omega)
    show G_X5_here_0 (F_X5_here_0 n) s = some (if (if g x = 32 then zsp g r (x + 1) else x) < t then nI (g (if g x = 32 then zsp g r (x + 1) else x)) else 0, bb_sf s 5 (nI (if g x = 32 then zsp g r (x + 1) else x)))
    unfold G_X5_here_0 F_X5_here_35 F_X5_here_38 F_X5_here_62
    rw [hM.1, hM.2.1, if_neg hn, bb_g_pos hv, nI_clamp (by omega), hM.2.2.2 x (by omega), nI_1, if_neg hn, bb_g_pos hv]
    by_cases e : g x = 32
    · rw [if_pos (show nI (g x) = 32 by rw [e]; rfl), if_pos e]
      rw [ih n (x + 1) (bb_sf s 5 (nI (x + 1))) ⟨hM.1, rfl, hM.2.2.1, hM.2.2.2⟩ (by omega) (by omega), zsf2]
    · rw [if_neg (show ¬ nI (g x) = (32 : Int32) from fun z => e ((nI_eq (a := g x) (b := 32) (by omega) (by decide)).mp z)), if_neg e, if_pos (show x < t by omega), ← hM.2.1, zsf_same]
theorem zm_here {g : Nat → Nat} {t x : Nat} (hg : ZG g t) {s : bb_O} (hM : ZM g t s x) (hx : x ≤ t) : F_X5_here_e s = some (nI (zch g t x), bb_sf s 5 (nI (zpk g t x))) := by
  unfold F_X5_here_e
  rw [zm_hrL hg (t - x) bb_N x s hM (by omega) (show t - x < 200 by have := hg.1; omega)]
  unfold zch
  show some (if zpk g t x < t then nI (g (zpk g t x)) else 0, _) = _
  by_cases e : zpk g t x < t
  · rw [if_pos e, if_pos e]
    rfl
  · rw [if_neg e, if_neg e]
    rfl
/-! one must be there -/
theorem zm_must1 {g : Nat → Nat} {t x : Nat} {s : bb_O} (hM : ZM g t s x) : ∃ s', F_X5_must_0 s 1 = some s' ∧ ZM g t s' (x + 1) ∧ ZH s s' := by
  refine ⟨bb_sf (bb_sf s 6 0) 5 (nI (x + 1)), ?_, ⟨hM.1, rfl, rfl, hM.2.2.2⟩, (ZH.f6 s 0).trans (ZH.f5 _ _)⟩
  unfold F_X5_must_0 F_X5_must_17 F_X5_must_20 F_X5_must_37 F_X5_must_41
  rw [if_pos hM.2.2.1, if_neg z10, bb_g_pos bz0, show (bb_sf s 6 0).1 6 = 0 from rfl, if_pos rfl, show (bb_sf s 6 0).1 5 = nI x from hM.2.1, nI_1]
theorem zm_must0 {g : Nat → Nat} {t x : Nat} {s : bb_O} (hM : ZM g t s x) : ∃ s', F_X5_must_0 s 0 = some s' ∧ ZN s' x ∧ ZH s s' := by
  refine ⟨bb_sf (bb_sf s 6 1) 5 (nI x), ?_, ⟨rfl, rfl⟩, (ZH.f6 s 1).trans (ZH.f5 _ _)⟩
  unfold F_X5_must_0 F_X5_must_12 F_X5_must_17 F_X5_must_20 F_X5_must_37 F_X5_must_41
  rw [if_pos hM.2.2.1, if_pos rfl, bb_g_pos bz1, show (bb_sf s 6 1).1 6 = 1 from rfl, if_neg z10, show (bb_sf s 6 1).1 5 = nI x from hM.2.1, Int32.add_zero]
theorem zn_must {s : bb_O} {x : Nat} (h : ZN s x) (y : Int32) : F_X5_must_0 s y = some s := by
  have e : bb_sf s 6 1 = s := by
    rw [← h.2]
    exact zsf_same s 6
  unfold F_X5_must_0 F_X5_must_12 F_X5_must_17 F_X5_must_20 F_X5_must_37 F_X5_must_41
  rw [h.2, if_neg z10, bb_g_pos bz1, e, h.2, if_neg z10, Int32.add_zero, zsf_same]
theorem zn_digit {s : bb_O} {x : Nat} (h : ZN s x) (lo hi : Int32) : F_X5_digit_0 s lo hi = some (-1, s) := by
  unfold F_X5_digit_0 F_X5_digit_18
  rw [h.2, if_neg z10, zin (-1) lo hi rfl rfl, Option.bind_some, zn_must h, Option.bind_some]
theorem zn_sign {s : bb_O} {x : Nat} (h : ZN s x) (c : Int32) : F_X5_sign_0 s c = some s := by
  unfold F_X5_sign_0 F_X5_sign_20 F_X5_sign_21
  rw [h.2, if_neg z10, zn_must h, Option.bind_some]
theorem zn_face {s : bb_O} {x : Nat} (h : ZN s x) : F_X5_readFace_0 s = some (0, s) := by
  unfold F_X5_readFace_0 F_X5_readFace_20
  rw [h.2, if_neg z10]
  show G_X5_readFace_21 (F_X5_readFace_21 199) s 0 (-1) = _
  unfold G_X5_readFace_21 F_X5_readFace_67
  rw [zin (-1) 0 5 (l := 0) (h := 5) (by decide) (by decide), Option.bind_some, if_neg (show ¬ ((0 : Int32) ≤ -1 ∧ (-1 : Int32) ≤ 5) by decide), if_pos rfl]
/-! a digit -/
theorem zdl : ∀ c, c < 127 → ∀ l, l < 10 → ((nI c - 48 < nI l ↔ c < 48 + l) ∧ (nI c - 48 ≤ nI l ↔ c ≤ 48 + l) ∧ (nI l ≤ nI c - 48 ↔ 48 + l ≤ c)) := by decide +kernel
theorem z_digit {g : Nat → Nat} {t x y : Nat} (hg : ZG g t) {T s : bb_O} (hC : ZC g t T x) (hM : ZM g t s y) (hx : x ≤ t) (hy : y ≤ t) (e : zpk g t x = zpk g t y) {lo hi : Nat} (hlo : lo < 10) (hhi : hi < 10) : (∃ v z T' s', lo ≤ v ∧ v ≤ hi ∧ z ≤ t ∧ F_X3_readDigit_0 T (nI lo) (nI hi) = some (nI v, T') ∧ F_X5_digit_0 s (nI lo) (nI hi) = some (nI v, s') ∧ ZC g t T' z ∧ ZM g t s' z ∧ ZH s s') ∨ ∃ z v' T' s', F_X3_readDigit_0 T (nI lo) (nI hi) = some (-4, T') ∧ F_X5_digit_0 s (nI lo) (nI hi) = some (v', s') ∧ ZC g t T' z ∧ ZN s' z ∧ ZH s s' := by
  have h90 := hg.1
  have hc := hg.ch y
  have hp := zpk_le g hy
  obtain ⟨l1, -, l3⟩ := zdl (zch g t y) hc lo hlo
  obtain ⟨-, h2, -⟩ := zdl (zch g t y) hc hi hhi
  have hM' : ZM g t (bb_sf s 5 (nI (zpk g t y))) (zpk g t y) := ⟨hM.1, rfl, hM.2.2.1, hM.2.2.2⟩
  unfold F_X3_readDigit_0 F_X3_readDigit_18 F_X5_digit_0 F_X5_digit_18
  rw [zc_peek hg hC hx, Option.bind_some, zch_of e, e, if_pos hM.2.2.1, zm_here hg hM hy, Option.bind_some, zin (nI (zch g t y) - 48) (nI lo) (nI hi) rfl rfl, Option.bind_some]
  by_cases a : 48 + lo ≤ zch g t y ∧ zch g t y ≤ 48 + hi
  · left
    have hlt : zpk g t y < t := by
      by_cases q : zpk g t y < t
      · exact q
      · exfalso
        have : zch g t y = 0 := by unfold zch; rw [if_neg q]
        omega
    obtain ⟨s', m1, m2, m3⟩ := zm_must1 hM'
    have ev : nI (zch g t y) - 48 = nI (zch g t y - 48) := by rw [fa_lit 48, zs_le (by omega)]
    refine ⟨zch g t y - 48, zpk g t y + 1, bb_sf T 2 (nI (zpk g t y + 1)), s', by omega, by omega, by omega, ?_, ?_, ⟨hC.1, rfl, hC.2.2⟩, m2, (ZH.f5 _ _).trans m3⟩
    · rw [if_neg (fun z => absurd (l1.mp z) (by omega)), if_pos (h2.mpr a.2), show (bb_sf T 2 (nI (zpk g t y))).1 2 = nI (zpk g t y) from rfl, nI_1, zsf2, ev]
    · rw [if_pos ⟨l3.mpr a.1, h2.mpr a.2⟩, m1, Option.bind_some, ev]
  · right
    obtain ⟨s', m1, m2, m3⟩ := zm_must0 hM'
    refine ⟨zpk g t y, nI (zch g t y) - 48, bb_sf T 2 (nI (zpk g t y)), s', ?_, ?_, ⟨hC.1, rfl, hC.2.2⟩, m2, (ZH.f5 _ _).trans m3⟩
    · by_cases q : nI (zch g t y) - 48 < nI lo
      · rw [if_pos q]
      · rw [if_neg q, if_neg (fun z => a ⟨Nat.le_of_not_lt (fun w => q (l1.mpr w)), h2.mp z⟩)]
    · rw [if_neg (fun z => a ⟨l3.mp z.1, h2.mp z.2⟩), m1, Option.bind_some]
theorem z_sign {g : Nat → Nat} {t x y : Nat} (hg : ZG g t) {T s : bb_O} (hC : ZC g t T x) (hM : ZM g t s y) (hx : x ≤ t) (hy : y ≤ t) (e : zpk g t x = zpk g t y) {c : Nat} (hc1 : 0 < c) (hc : c < 127) : (∃ z T' s', z ≤ t ∧ zch g t y = c ∧ F_X3_readSign_0 T (nI c) = some (1, T') ∧ F_X5_sign_0 s (nI c) = some s' ∧ ZC g t T' z ∧ ZM g t s' z ∧ ZH s s') ∨ ∃ z T' s', z = zpk g t y ∧ zch g t y ≠ c ∧ F_X3_readSign_0 T (nI c) = some (0, T') ∧ F_X5_sign_0 s (nI c) = some s' ∧ ZC g t T' z ∧ ZN s' z ∧ ZH s s' := by
  have h90 := hg.1
  have hcy := hg.ch y
  have hp := zpk_le g hy
  have hM' : ZM g t (bb_sf s 5 (nI (zpk g t y))) (zpk g t y) := ⟨hM.1, rfl, hM.2.2.1, hM.2.2.2⟩
  unfold F_X3_readSign_0 F_X5_sign_0 F_X5_sign_20 F_X5_sign_21
  rw [zc_peek hg hC hx, Option.bind_some, zch_of e, e, if_pos hM.2.2.1, zm_here hg hM hy, Option.bind_some]
  by_cases a : zch g t y = c
  · left
    have hlt : zpk g t y < t := by
      by_cases q : zpk g t y < t
      · exact q
      · exfalso
        have : zch g t y = 0 := by unfold zch; rw [if_neg q]
        omega
    obtain ⟨s', m1, m2, m3⟩ := zm_must1 hM'
    refine ⟨zpk g t y + 1, bb_sf T 2 (nI (zpk g t y + 1)), s', by omega, a, ?_, ?_, ⟨hC.1, rfl, hC.2.2⟩, m2, (ZH.f5 _ _).trans m3⟩
    · rw [a, if_pos rfl, show (bb_sf T 2 (nI (zpk g t y))).1 2 = nI (zpk g t y) from rfl, nI_1, zsf2]
    · rw [a, if_pos rfl, m1, Option.bind_some]
  · right
    obtain ⟨s', m1, m2, m3⟩ := zm_must0 hM'
    have ne : ¬ nI (zch g t y) = nI c := fun z => a ((nI_eq (by omega) (by omega)).mp z)
    refine ⟨zpk g t y, bb_sf T 2 (nI (zpk g t y)), s', rfl, a, ?_, ?_, ⟨hC.1, rfl, hC.2.2⟩, m2, (ZH.f5 _ _).trans m3⟩
    · rw [if_neg ne]
    · rw [if_neg ne, m1, Option.bind_some]
/-! features -/
theorem zfbits : ∀ f, f < 6 → (1 : Int32) <<< (nI f &&& 31) = nI (2 ^ f) := by decide +kernel
theorem zfor : ∀ f, f < 6 → ∀ a, a < 64 → a < 2 ^ f → 2 ^ f ≤ a ||| 2 ^ f ∧ a ||| 2 ^ f < 2 ^ (f + 1) := by decide +kernel
theorem zpow6 : ∀ f, f < 7 → 2 ^ f ≤ 64 := by decide
theorem zin5 : ∀ c, c < 127 → ((0 ≤ nI c - 97 ∧ nI c - 97 ≤ 5) ↔ (97 ≤ c ∧ c ≤ 102)) := by decide +kernel
theorem zm_face1 {s : bb_O} {c a n : Nat} (hc : c < 127) (h : ∀ f, f < 6 → c = 97 + f → 2 ^ f ≤ a) (ha : a < 64) : F_X5_readFace_21 (n + 1) s (nI a) (nI c - 97) = some (nI a, s) := by
  show G_X5_readFace_21 (F_X5_readFace_21 n) s (nI a) (nI c - 97) = _
  unfold G_X5_readFace_21 F_X5_readFace_67
  rw [zin (nI c - 97) 0 5 (l := 0) (h := 5) (by decide) (by decide), Option.bind_some]
  by_cases q : 97 ≤ c ∧ c ≤ 102
  · rw [if_pos ((zin5 c hc).mpr q), if_neg z10, show nI c - 97 = nI (c - 97) by rw [fa_lit 97, zs_le q.1], zfbits _ (by omega)]
    have := h (c - 97) (by omega) (by omega)
    rw [if_pos (nI_le this (by omega))]
  · rw [if_neg (fun z => q ((zin5 c hc).mp z)), if_pos rfl]
theorem z_face {g : Nat → Nat} {t : Nat} (hg : ZG g t) : ∀ (m n n' f x a : Nat) (T s : bb_O), ZC g t T x → ZM g t s (zpk g t x) → x ≤ t → f + m = 6 → m < n → m < n' → a < 2 ^ f → (∀ f', f' < f → zch g t x = 97 + f' → 2 ^ f' ≤ a) → ∃ b z T' s', b < 64 ∧ z ≤ t ∧ F_X3_readFeatures_4 n T (nI a) (nI f) = some (nI b, T') ∧ F_X5_readFace_21 n' s (nI a) (nI (zch g t x) - 97) = some (nI b, s') ∧ ZC g t T' z ∧ ZM g t s' (zpk g t z) ∧ ZH s s' := by
  have h90 := hg.1
  intro m
  induction m with
  | zero =>
    intro n n' f x a T s hC hM hx h1 h2 h3 ha hf
    obtain ⟨n, rfl⟩ : ∃ m, n = m + 1 := ⟨n - 1, by omega⟩
    obtain ⟨n', rfl⟩ : ∃ m, n' = m + 1 := ⟨n' - 1, by omega⟩
    obtain rfl : f = 6 := by omega
    refine ⟨a, x, T, s, ha, hx, ?_, zm_face1 (hg.ch x) hf ha, hC, hM, ZH.refl s⟩
    show G_X3_readFeatures_4 (F_X3_readFeatures_4 n) T (nI a) (nI 6) = _
    unfold G_X3_readFeatures_4
    rw [if_pos (by decide)]
  | succ m ih =>
    intro n n' f x a T s hC hM hx h1 h2 h3 ha hf
    obtain ⟨n, rfl⟩ : ∃ m, n = m + 1 := ⟨n - 1, by omega⟩
    have hp := zpk_le g hx
    have hch := hg.ch x
    have ha64 : a < 64 := Nat.lt_of_lt_of_le ha (zpow6 f (by omega))
    have st : F_X3_readFeatures_4 (n + 1) T (nI a) (nI f) = if zch g t x = 97 + f then F_X3_readFeatures_4 n (bb_sf T 2 (nI (zpk g t x + 1))) (nI (a ||| 2 ^ f)) (nI (f + 1)) else F_X3_readFeatures_4 n (bb_sf T 2 (nI (zpk g t x))) (nI a) (nI (f + 1)) := by
      show G_X3_readFeatures_4 (F_X3_readFeatures_4 n) T (nI a) (nI f) = _
      unfold G_X3_readFeatures_4 F_X3_readFeatures_37
      rw [if_neg (show ¬ (6 : Int32) ≤ nI f from fun z => absurd ((nI_leI (a := 6) (b := f) (by decide) (by omega)).mp z) (by omega)), zc_peek hg hC hx, Option.bind_some, show (97 : Int32) + nI f = nI (97 + f) by rw [fa_lit 97, nI_add], zfbits f (by omega), fa_or, nI_1, show (bb_sf T 2 (nI (zpk g t x))).1 2 = nI (zpk g t x) from rfl, nI_1, zsf2]
      by_cases q : zch g t x = 97 + f
      · rw [if_pos q, if_pos (by rw [q])]
      · rw [if_neg q, if_neg (fun z => q ((nI_eq (by omega) (by omega)).mp z))]
    rw [st]
    by_cases q : zch g t x = 97 + f
    · rw [if_pos q]
      have hlt : zpk g t x < t := by
        by_cases r : zpk g t x < t
        · exact r
        · exfalso
          have : zch g t x = 0 := by unfold zch; rw [if_neg r]
          omega
      obtain ⟨b1, b2⟩ := zfor f (by omega) a ha64 ha
      obtain ⟨n', rfl⟩ : ∃ m, n' = m + 1 := ⟨n' - 1, by omega⟩
      have hM1 : ZM g t (bb_sf s 5 (nI (zpk g t x + 1))) (zpk g t x + 1) := ⟨hM.1, rfl, hM.2.2.1, hM.2.2.2⟩
      obtain ⟨b, z, T', s', c1, c2, c3, c4, c5, c6, c7⟩ := ih n n' (f + 1) (zpk g t x + 1) (a ||| 2 ^ f) (bb_sf T 2 (nI (zpk g t x + 1))) (bb_sf (bb_sf s 5 (nI (zpk g t x + 1))) 5 (nI (zpk g t (zpk g t x + 1)))) ⟨hC.1, rfl, hC.2.2⟩ ⟨hM.1, rfl, hM.2.2.1, hM.2.2.2⟩ (by omega) (by omega) (by omega) (by omega) b2 (fun f' hf' _ => Nat.le_trans (Nat.pow_le_pow_right (by decide) (by omega)) b1)
      refine ⟨b, z, T', s', c1, c2, c3, ?_, c5, c6, ((ZH.f5 s _).trans (ZH.f5 _ _)).trans c7⟩
      show G_X5_readFace_21 (F_X5_readFace_21 n') s (nI a) (nI (zch g t x) - 97) = _
      unfold G_X5_readFace_21 F_X5_readFace_56 F_X5_readFace_64
      rw [zin (nI (zch g t x) - 97) 0 5 (l := 0) (h := 5) (by decide) (by decide), Option.bind_some, if_pos ((zin5 _ hch).mpr (by omega)), if_neg z10, show nI (zch g t x) - 97 = nI f by rw [q, fa_lit 97, zs_le (by omega)]; congr 1; omega, zfbits f (by omega), if_neg (show ¬ nI (2 ^ f) ≤ nI a from fun z => absurd ((nI_leI (by have := zpow6 f (by omega); omega) (by omega)).mp z) (by omega)), hM.2.1, nI_1, fa_or, zm_here hg hM1 (by omega), Option.bind_some]
      exact c4
    · rw [if_neg q]
      obtain ⟨b, z, T', s', c1, c2, c3, c4, c5, c6, c7⟩ := ih n n' (f + 1) (zpk g t x) a (bb_sf T 2 (nI (zpk g t x))) s ⟨hC.1, rfl, hC.2.2⟩ (by rw [zpk_idem g hx]; exact hM) hp.2 (by omega) (by omega) (by omega) (Nat.lt_of_lt_of_le ha (Nat.pow_le_pow_right (by decide) (by omega))) (fun f' hf' e => by
        rw [zch_idem g hx] at e
        by_cases r : f' = f
        · exact absurd (r ▸ e) q
        · exact hf f' (by omega) e)
      rw [zch_idem g hx] at c4
      exact ⟨b, z, T', s', c1, c2, c3, c4, c5, c6, c7⟩
