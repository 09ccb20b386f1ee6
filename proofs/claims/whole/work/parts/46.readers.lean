/-! ===== all the people ===== -/
def zcs (w : Nat → Int32) (a : Nat → Int32) : Nat → Nat → Int32
  | 0 => w
  | k + 1 => zcm (zcs w a k) k (a (4 * k)) (a (4 * k + 1)) (a (4 * k + 2)) (a (4 * k + 3))
theorem zcs_cong {w a b : Nat → Int32} : ∀ (k : Nat), (∀ j, j < 4 * k → b j = a j) → zcs w b k = zcs w a k := by
  intro k
  induction k with
  | zero => intro _; rfl
  | succ k ih =>
    intro h
    show zcm (zcs w b k) k (b (4 * k)) (b (4 * k + 1)) (b (4 * k + 2)) (b (4 * k + 3)) = zcm (zcs w a k) k (a (4 * k)) (a (4 * k + 1)) (a (4 * k + 2)) (a (4 * k + 3))
    rw [ih (fun j hj => h j (by omega)), h _ (by omega), h _ (by omega), h _ (by omega), h _ (by omega)]
theorem zcs_2 {w a : Nat → Int32} (h : w 2 = nI 0) (k : Nat) : zcs w a k 2 = nI k := by
  cases k with
  | zero => exact h
  | succ k => exact zcm_2 _ _ _ _ _ _
theorem zn_41 {k2 : bb_O → Int32 → Int32 → Int32 → Option (Int32 × bb_O)} {s : bb_O} {p : Nat} (h : ZN s p) (x1 x2 x3 : Int32) : F_X5_readPeople_41 k2 s x1 x2 x3 = k2 s x1 x2 (x3 + 1) := by
  unfold F_X5_readPeople_41
  rw [h.2, if_neg z10, show F_X5_readPeople_56 k2 s x1 x2 x3 0 = F_X5_readPeople_114 k2 s x1 x2 x3 (-1) from rfl]
  unfold F_X5_readPeople_114 F_X5_readPeople_127
  rw [if_pos (show (-1 : Int32) < 0 by decide), zn_must h, Option.bind_some, zn_digit h, Option.bind_some, zn_140 h]
theorem zn_2 {s : bb_O} {p : Nat} (h : ZN s p) (n : Nat) (x1 x2 x3 : Int32) : F_X5_readPeople_2 (n + 1) s x1 x2 x3 = some (x3, s) := by
  show G_X5_readPeople_2 (F_X5_readPeople_2 n) s x1 x2 x3 = _
  unfold G_X5_readPeople_2 F_X5_readPeople_229
  rw [h.2, if_neg z10]
theorem z_people {g : Nat → Nat} {t : Nat} (hg : ZG g t) {w0 : Nat → Int32} (h20 : w0 2 = nI 0) {R C : Nat} : ∀ (m n n' P x y : Nat) (T s c : bb_O), P + m = 5 → m < n → m + 1 < n' → ZC g t T x → ZM g t s y → x ≤ t → y ≤ t → zpk g t x = zpk g t y → RC c (zcs w0 (s.2.1 7) P) → ZI (zcs w0 (s.2.1 7) P) → gN (zcs w0 (s.2.1 7) P) 0 = R → gN (zcs w0 (s.2.1 7) P) 1 = C → (∃ T' c' s' P' y' z, F_X3_readInto_26 n T c (nI (P + 1)) = some (1, (T', c')) ∧ F_X5_readPeople_41 (F_X5_readPeople_2 n') s (nI R) (nI C) (nI P) = some (nI P', s') ∧ P' ≤ 6 ∧ RC c' (zcs w0 (s'.2.1 7) P') ∧ ZI (zcs w0 (s'.2.1 7) P') ∧ ZC g t T' z ∧ ZM g t s' y' ∧ y' ≤ t ∧ zch g t y' = 0 ∧ ZX s s') ∨ ∃ T' c' s' z v, F_X3_readInto_26 n T c (nI (P + 1)) = some (0, (T', c')) ∧ F_X5_readPeople_41 (F_X5_readPeople_2 n') s (nI R) (nI C) (nI P) = some (v, s') ∧ ZC g t T' z ∧ (ZN s' z ∨ ∃ y', y' ≤ t ∧ ZM g t s' y' ∧ zch g t y' ≠ 0 ∧ zpk g t y' = z) ∧ ZX s s' := by
  have h90 := hg.1
  intro m
  induction m with
  | zero =>
    intro n n' P x y T s c h1 h2 h3 hC hM hx hy e hc hi hR hK
    obtain rfl : P = 5 := by omega
    obtain ⟨n, rfl⟩ : ∃ m, n = m + 1 := ⟨n - 1, by omega⟩
    obtain ⟨n', rfl⟩ : ∃ m, n' = m + 1 + 1 := ⟨n' - 2, by omega⟩
    have g2 : gN (zcs w0 (s.2.1 7) 5) 2 = 5 := by unfold gN; rw [zcs_2 h20]; exact nI_clamp (by omega)
    have key := z_person hg hC hM hx hy e hc hi (by omega) g2 (F_X5_readPeople_2 (n' + 1 + 1))
    rw [hR, hK] at key
    show (∃ T' c' s' P' y' z, G_X3_readInto_26 (F_X3_readInto_26 n) T c (nI 6) = some (1, (T', c')) ∧ _) ∨ ∃ T' c' s' z v, G_X3_readInto_26 (F_X3_readInto_26 n) T c (nI 6) = some (0, (T', c')) ∧ _
    unfold G_X3_readInto_26 F_X3_readInto_66
    rw [if_neg (show ¬ (6 : Int32) < nI 6 by decide)]
    rcases key with ⟨T1, c1, s1, x1, y1, kd, ce, no, fa, k1, k2, k3, k4, k5, k6, k7, k8, k9, k10, k11, k12, k13, k14, k15, k16, k17, k18⟩ | ⟨T1, c1, s1, z, k1, k2, k3, k4, k5⟩
    · rw [k1, Option.bind_some, if_neg z10]
      dsimp only
      rw [zc_peek hg k8 k9, Option.bind_some, k2]
      have hcy := hg.ch y1
      have hp1 := zpk_le g k11
      have hMh : ZM g t (bb_sf s1 5 (nI (zpk g t y1))) (zpk g t y1) := ⟨k10.1, rfl, k10.2.2.1, k10.2.2.2⟩
      have hrow : zcs w0 (s1.2.1 7) (5 + 1) = zcm (zcs w0 (s.2.1 7) 5) 5 (nI kd) (nI ce) (nI no) (nI fa) := by
        show zcm (zcs w0 (s1.2.1 7) 5) 5 _ _ _ _ = _
        rw [zcs_cong 5 (fun j hj => k18 j (by omega)), k14, k15, k16, k17]
      show (∃ T' c' s' P' y' z, _ ∧ G_X5_readPeople_2 (F_X5_readPeople_2 (n' + 1)) s1 (nI R) (nI C) (nI (5 + 1)) = some (nI P', s') ∧ _) ∨ ∃ T' c' s' z v, _ ∧ G_X5_readPeople_2 (F_X5_readPeople_2 (n' + 1)) s1 (nI R) (nI C) (nI (5 + 1)) = some (v, s') ∧ _
      unfold G_X5_readPeople_2 F_X5_readPeople_22 F_X5_readPeople_38 F_X5_readPeople_229
      rw [if_pos k10.2.2.1, if_neg (show ¬ nI (5 + 1) = 0 by decide), zm_here hg k10 k11, Option.bind_some, zch_of k12, k12]
      dsimp only
      by_cases z0 : zch g t y1 = 0
      · left
        rw [z0, if_pos (show nI 0 = 0 from rfl), if_neg (show ¬ nI 0 = (44 : Int32) by decide)]
        refine ⟨_, c1, _, 6, zpk g t y1, zpk g t y1, rfl, rfl, by omega, ?_, ?_, ⟨k8.1, rfl, k8.2.2⟩, hMh, hp1.2, by rw [zch_idem g k11]; exact z0, k13.trans (ZH.f5 _ _).x⟩
        · show RC c1 (zcs w0 (s1.2.1 7) (5 + 1))
          rw [hrow]; exact k7
        · show ZI (zcs w0 (s1.2.1 7) (5 + 1))
          rw [hrow]; exact zcm_ZI hi (by omega) g2 k3 (by rw [hR, hK]; exact k4) k5 k6
      · right
        rw [if_neg (show ¬ nI (zch g t y1) = 0 from fun q => z0 ((nI_eq (a := zch g t y1) (b := 0) (by omega) (by decide)).mp q)), if_pos (show nI 6 = (6 : Int32) from rfl)]
        by_cases z44 : zch g t y1 = 44
        · rw [z44, if_pos (show nI 44 = (44 : Int32) from rfl), if_neg (show ¬ nI (5 + 1) ≤ 0 by decide), if_pos (show (6 : Int32) ≤ nI (5 + 1) by decide)]
          obtain ⟨s3, m1, m2, m3⟩ := zm_must0 hMh
          rw [m1, Option.bind_some, zn_41 m2, zn_2 m2]
          exact ⟨_, c1, s3, zpk g t y1, _, rfl, rfl, ⟨k8.1, rfl, k8.2.2⟩, Or.inl m2, k13.trans ((ZH.f5 _ _).trans m3).x⟩
        · rw [if_neg (show ¬ nI (zch g t y1) = (44 : Int32) from fun q => z44 ((nI_eq (a := zch g t y1) (b := 44) (by omega) (by decide)).mp q))]
          exact ⟨_, c1, _, zpk g t y1, _, rfl, rfl, ⟨k8.1, rfl, k8.2.2⟩, Or.inr ⟨zpk g t y1, hp1.2, hMh, by rw [zch_idem g k11]; exact z0, zpk_idem g k11⟩, k13.trans (ZH.f5 _ _).x⟩
    · right
      rw [k1, Option.bind_some, if_pos rfl, k2, zn_2 k4]
      exact ⟨T1, c1, s1, z, _, rfl, rfl, k3, Or.inl k4, k5⟩
  | succ m ih =>
    intro n n' P x y T s c h1 h2 h3 hC hM hx hy e hc hi hR hK
    obtain ⟨n, rfl⟩ : ∃ m, n = m + 1 := ⟨n - 1, by omega⟩
    obtain ⟨n', rfl⟩ : ∃ m, n' = m + 1 := ⟨n' - 1, by omega⟩
    have g2 : gN (zcs w0 (s.2.1 7) P) 2 = P := by unfold gN; rw [zcs_2 h20]; exact nI_clamp (by omega)
    have key := z_person hg hC hM hx hy e hc hi (by omega) g2 (F_X5_readPeople_2 (n' + 1))
    rw [hR, hK] at key
    show (∃ T' c' s' P' y' z, G_X3_readInto_26 (F_X3_readInto_26 n) T c (nI (P + 1)) = some (1, (T', c')) ∧ _) ∨ ∃ T' c' s' z v, G_X3_readInto_26 (F_X3_readInto_26 n) T c (nI (P + 1)) = some (0, (T', c')) ∧ _
    unfold G_X3_readInto_26 F_X3_readInto_66
    rw [if_neg (show ¬ (6 : Int32) < nI (P + 1) from fun q => absurd ((nI_ltI (a := 6) (b := P + 1) (by decide) (by omega)).mp q) (by omega))]
    rcases key with ⟨T1, c1, s1, x1, y1, kd, ce, no, fa, k1, k2, k3, k4, k5, k6, k7, k8, k9, k10, k11, k12, k13, k14, k15, k16, k17, k18⟩ | ⟨T1, c1, s1, z, k1, k2, k3, k4, k5⟩
    · rw [k1, Option.bind_some, if_neg z10]
      dsimp only
      rw [zc_peek hg k8 k9, Option.bind_some, k2]
      have hcy := hg.ch y1
      have hp1 := zpk_le g k11
      have hMh : ZM g t (bb_sf s1 5 (nI (zpk g t y1))) (zpk g t y1) := ⟨k10.1, rfl, k10.2.2.1, k10.2.2.2⟩
      have hrow : zcs w0 (s1.2.1 7) (P + 1) = zcm (zcs w0 (s.2.1 7) P) P (nI kd) (nI ce) (nI no) (nI fa) := by
        show zcm (zcs w0 (s1.2.1 7) P) P _ _ _ _ = _
        rw [zcs_cong P (fun j hj => k18 j (by omega)), k14, k15, k16, k17]
      have hzi : ZI (zcs w0 (s1.2.1 7) (P + 1)) := by rw [hrow]; exact zcm_ZI hi (by omega) g2 k3 (by rw [hR, hK]; exact k4) k5 k6
      have hrc : RC c1 (zcs w0 (s1.2.1 7) (P + 1)) := by rw [hrow]; exact k7
      have hCh : ZC g t (bb_sf T1 2 (nI (zpk g t y1))) (zpk g t y1) := ⟨k8.1, rfl, k8.2.2⟩
      show (∃ T' c' s' P' y' z, _ ∧ G_X5_readPeople_2 (F_X5_readPeople_2 n') s1 (nI R) (nI C) (nI (P + 1)) = some (nI P', s') ∧ _) ∨ ∃ T' c' s' z v, _ ∧ G_X5_readPeople_2 (F_X5_readPeople_2 n') s1 (nI R) (nI C) (nI (P + 1)) = some (v, s') ∧ _
      unfold G_X5_readPeople_2 F_X5_readPeople_22 F_X5_readPeople_38 F_X5_readPeople_229 F_X3_readSign_0
      rw [if_pos k10.2.2.1, if_neg (show ¬ nI (P + 1) = 0 from fun q => absurd ((nI_eq (a := P + 1) (b := 0) (by omega) (by decide)).mp q) (by omega)), zm_here hg k10 k11, Option.bind_some, zch_of k12, k12]
      dsimp only
      by_cases z0 : zch g t y1 = 0
      · left
        rw [z0, if_pos (show nI 0 = 0 from rfl), if_neg (show ¬ nI 0 = (44 : Int32) by decide)]
        exact ⟨_, c1, _, P + 1, zpk g t y1, zpk g t y1, rfl, rfl, by omega, hrc, hzi, hCh, hMh, hp1.2, by rw [zch_idem g k11]; exact z0, k13.trans (ZH.f5 _ _).x⟩
      · rw [if_neg (show ¬ nI (zch g t y1) = 0 from fun q => z0 ((nI_eq (a := zch g t y1) (b := 0) (by omega) (by decide)).mp q)), if_neg (show ¬ nI (P + 1) = (6 : Int32) from fun q => absurd ((nI_eq (a := P + 1) (b := 6) (by omega) (by decide)).mp q) (by omega))]
        rw [zc_peek hg hCh hp1.2, Option.bind_some, zch_idem g k11, zpk_idem g k11, zsf2]
        dsimp only
        by_cases z44 : zch g t y1 = 44
        · have hlt : zpk g t y1 < t := by
            by_cases q : zpk g t y1 < t
            · exact q
            · exact absurd (by unfold zch; rw [if_neg q]) z0
          obtain ⟨s3, m1, m2, m3⟩ := zm_must1 hMh
          rw [z44, if_pos (show nI 44 = (44 : Int32) from rfl), if_neg (show ¬ nI (P + 1) ≤ 0 from fun q => absurd ((nI_leI (a := P + 1) (b := 0) (by omega) (by decide)).mp q) (by omega)), if_neg (show ¬ (6 : Int32) ≤ nI (P + 1) from fun q => absurd ((nI_leI (a := 6) (b := P + 1) (by decide) (by omega)).mp q) (by omega)), m1, Option.bind_some, if_pos (show nI 44 = (44 : Int32) from rfl), Option.bind_some, if_neg z10]
          have e7 : s3.2.1 7 = s1.2.1 7 := by rw [((ZH.f5 s1 (nI (zpk g t y1))).trans m3).2]
          have gz : ∀ i, i < 2 → gN (zcs w0 (s1.2.1 7) (P + 1)) i = gN (zcs w0 (s.2.1 7) P) i := fun i hi => by
            rw [hrow]
            unfold gN
            rw [zcm_o _ _ _ _ _ _ (by omega) (by omega)]
          rw [show (bb_sf T1 2 (nI (zpk g t y1))).1 2 + 1 = nI (zpk g t y1 + 1) from nI_1 _, zsf2, nI_1]
          have hX : ZX s s3 := k13.trans ((ZH.f5 _ _).trans m3).x
          rcases ih n n' (P + 1) (zpk g t y1 + 1) (zpk g t y1 + 1) (bb_sf T1 2 (nI (zpk g t y1 + 1))) s3 c1 (by omega) (by omega) (by omega) ⟨k8.1, rfl, k8.2.2⟩ m2 (by omega) (by omega) rfl (by rw [e7]; exact hrc) (by rw [e7]; exact hzi) (by rw [e7, gz 0 (by omega)]; exact hR) (by rw [e7, gz 1 (by omega)]; exact hK) with ⟨T', c', s', P', y', z, q1, q2, q3, q4, q5, q6, q7, q8, q9, q10⟩ | ⟨T', c', s', z, v, q1, q2, q3, q4, q5⟩
          · left
            exact ⟨T', c', s', P', y', z, q1, q2, q3, q4, q5, q6, q7, q8, q9, hX.trans q10⟩
          · right
            exact ⟨T', c', s', z, v, q1, q2, q3, q4, hX.trans q5⟩
        · right
          have n44 : ¬ nI (zch g t y1) = (44 : Int32) := fun q => z44 ((nI_eq (a := zch g t y1) (b := 44) (by omega) (by decide)).mp q)
          rw [if_neg n44, if_neg n44, Option.bind_some, if_pos rfl]
          exact ⟨_, c1, _, zpk g t y1, _, rfl, rfl, hCh, Or.inr ⟨zpk g t y1, hp1.2, hMh, by rw [zch_idem g k11]; exact z0, zpk_idem g k11⟩, k13.trans (ZH.f5 _ _).x⟩
    · right
      rw [k1, Option.bind_some, if_pos rfl, k2, zn_2 k4]
      exact ⟨T1, c1, s1, z, _, rfl, rfl, k3, Or.inl k4, k5⟩
theorem zm_comesL {w0 a : Nat → Int32} (h20 : w0 2 = nI 0) {P : Nat} (hP : P ≤ 6) : ∀ (m n k : Nat) (s : bb_O), k + m = P → m < n → s.2.1 0 = zcs w0 a k → s.2.1 7 = a → s.1 9 = 0 → ∃ s', F_X5_city_135 n s (nI P) (nI k) = some (nI P, s') ∧ s'.2.1 0 = zcs w0 a P ∧ s'.1 9 = 0 ∧ (∀ k, k ≠ 9 → s'.1 k = s.1 k) ∧ (∀ k, k ≠ 0 → s'.2.1 k = s.2.1 k) ∧ s'.2.2 = s.2.2 := by
  intro m
  induction m with
  | zero =>
    intro n k s h1 h2 h3 h4 h5
    obtain ⟨n, rfl⟩ : ∃ m, n = m + 1 := ⟨n - 1, by omega⟩
    obtain rfl : k = P := by omega
    refine ⟨s, ?_, h3, h5, fun _ _ => rfl, fun _ _ => rfl, rfl⟩
    show G_X5_city_135 (F_X5_city_135 n) s (nI k) (nI k) = _
    unfold G_X5_city_135
    rw [if_pos (nI_le (by omega) (by omega))]
  | succ m ih =>
    intro n k s h1 h2 h3 h4 h5
    obtain ⟨n, rfl⟩ : ∃ m, n = m + 1 := ⟨n - 1, by omega⟩
    obtain ⟨s', q1, q2, q3, q4, q5, q6⟩ := ih n (k + 1) (upd s.1 9 0, va_up s.2.1 0 (zcm (zcs w0 a k) k (a (4 * k)) (a (4 * k + 1)) (a (4 * k + 2)) (a (4 * k + 3))), s.2.2) (by omega) (by omega) rfl h4 rfl
    have i0 : (4 : Int32) * nI k = nI (4 * k) := by rw [fa_lit 4, pk_mul]
    have i1 : nI (4 * k) + 1 = nI (4 * k + 1) := nI_1 _
    have i2 : nI (4 * k) + 2 = nI (4 * k + 2) := nI_add _ 2
    have i3 : nI (4 * k) + 3 = nI (4 * k + 3) := nI_add _ 3
    refine ⟨s', ?_, q2, q3, fun i hi => (q4 i hi).trans (zu_n _ _ hi), fun i hi => (q5 i hi).trans (va_up_ne _ _ hi), q6⟩
    show G_X5_city_135 (F_X5_city_135 n) s (nI P) (nI k) = _
    unfold G_X5_city_135
    rw [if_neg (show ¬ nI P ≤ nI k from fun q => absurd ((nI_leI (by omega) (by omega)).mp q) (by omega)), i0, i1, i2, i3, bb_g_pos (vp_in_nI (by omega) (by omega)), bb_g_pos (vp_in_nI (by omega) (by omega)), bb_g_pos (vp_in_nI (by omega) (by omega)), bb_g_pos (vp_in_nI (by omega) (by omega)), nI_clamp (n := 4 * k) (by omega), nI_clamp (n := 4 * k + 1) (by omega), nI_clamp (n := 4 * k + 2) (by omega), nI_clamp (n := 4 * k + 3) (by omega), h4, zm_comes h3 (show k < 6 by omega) (zcs_2 h20 k), Option.bind_some, nI_1, q1]
