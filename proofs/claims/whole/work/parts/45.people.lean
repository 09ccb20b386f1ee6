/-! ===== the letter of a kind ===== -/
def zkd (c : Nat) : Int32 := if c = 112 then 0 else if c = 115 then 1 else if c = 98 then 2 else if c = 104 then 3 else if c = 108 then 4 else -1
theorem zidx {c : Nat} (hc : c < 127) : F_J0_indexOf_0f7a4_0 (nI c) = some (zkd c) := by
  have st : ∀ (n j : Nat), j < 5 → F_J1_indexOfChar_4cfef_7 (n + 1) 5 (nI c) (nI j) = if bb_kb j = nI c then some (nI j) else F_J1_indexOfChar_4cfef_7 n 5 (nI c) (nI (j + 1)) := fun n j hj => by
    show G_J1_indexOfChar_4cfef_7 (F_J1_indexOfChar_4cfef_7 n) 5 (nI c) (nI j) = _
    unfold G_J1_indexOfChar_4cfef_7
    rw [if_neg (show ¬ (5 : Int32) ≤ nI j from fun z => absurd ((nI_leI (a := 5) (b := j) (by decide) (by omega)).mp z) (by omega)), bb_g_pos (vp_in_nI (by omega) (by omega)), nI_clamp (by omega), nI_1]
  have la : ∀ (n : Nat), F_J1_indexOfChar_4cfef_7 (n + 1) 5 (nI c) (nI 5) = some (-1) := fun n => by
    show G_J1_indexOfChar_4cfef_7 (F_J1_indexOfChar_4cfef_7 n) 5 (nI c) (nI 5) = _
    unfold G_J1_indexOfChar_4cfef_7
    rw [if_pos (by decide)]
  have k : ∀ (a : Nat), a < 127 → (nI a = nI c ↔ c = a) := fun a ha => ⟨fun z => ((nI_eq (by omega) (by omega)).mp z).symm, fun z => by rw [z]⟩
  unfold F_J0_indexOf_0f7a4_0 F_J0_indexOf_7cf53_0 F_J0_indexOf_7cf53_36 F_J1_indexOf_4cfef_0 F_J1_canEncode_9a6ad_0 F_J1_canEncode_9a6ad_15 F_J1_canEncode_9a6ad_16 F_J1_indexOfChar_4cfef_0
  rw [if_neg (nI_pos (by omega)), if_neg (show ¬ (255 : Int32) < nI c from fun z => absurd ((nI_ltI (a := 255) (b := c) (by decide) (by omega)).mp z) (by omega)), bb_g_pos bz1, Option.bind_some, if_neg z10, fa_byte_small (by omega)]
  rw [if_pos (show (if (0 : Int32) < 0 then (0 : Int32) else 0) < (if (5 : Int32) < 5 then (5 : Int32) else 5) by decide)]
  rw [show (if (0 : Int32) < 0 then (0 : Int32) else 0) = nI 0 from rfl, show (if (5 : Int32) < 5 then (5 : Int32) else 5) = 5 from rfl]
  show (((F_J1_indexOfChar_4cfef_7 (194 + 1 + 1 + 1 + 1 + 1 + 1) 5 (nI c) (nI 0)).bind fun q4 => some q4).bind fun q4 => some q4).bind _ = _
  rw [st _ 0 (by omega), st _ 1 (by omega), st _ 2 (by omega), st _ 3 (by omega), st _ 4 (by omega), la]
  rw [show bb_kb 0 = nI 112 from rfl, show bb_kb 1 = nI 115 from rfl, show bb_kb 2 = nI 98 from rfl, show bb_kb 3 = nI 104 from rfl, show bb_kb 4 = nI 108 from rfl]
  simp only [k 112 (by omega), k 115 (by omega), k 98 (by omega), k 104 (by omega), k 108 (by omega)]
  unfold zkd
  by_cases e1 : c = 112
  · rw [if_pos e1, if_pos e1]; rfl
  rw [if_neg e1, if_neg e1]
  by_cases e2 : c = 115
  · rw [if_pos e2, if_pos e2]; rfl
  rw [if_neg e2, if_neg e2]
  by_cases e3 : c = 98
  · rw [if_pos e3, if_pos e3]; rfl
  rw [if_neg e3, if_neg e3]
  by_cases e4 : c = 104
  · rw [if_pos e4, if_pos e4]; rfl
  rw [if_neg e4, if_neg e4]
  by_cases e5 : c = 108
  · rw [if_pos e5, if_pos e5]; rfl
  rw [if_neg e5, if_neg e5]
  rfl
theorem zkd_is (c : Nat) : zkd c = -1 ∨ ∃ k, k < 5 ∧ zkd c = nI k ∧ c ≠ 0 := by
  unfold zkd
  by_cases e1 : c = 112
  · rw [if_pos e1]; exact Or.inr ⟨0, by omega, rfl, by omega⟩
  rw [if_neg e1]
  by_cases e2 : c = 115
  · rw [if_pos e2]; exact Or.inr ⟨1, by omega, rfl, by omega⟩
  rw [if_neg e2]
  by_cases e3 : c = 98
  · rw [if_pos e3]; exact Or.inr ⟨2, by omega, rfl, by omega⟩
  rw [if_neg e3]
  by_cases e4 : c = 104
  · rw [if_pos e4]; exact Or.inr ⟨3, by omega, rfl, by omega⟩
  rw [if_neg e4]
  by_cases e5 : c = 108
  · rw [if_pos e5]; exact Or.inr ⟨4, by omega, rfl, by omega⟩
  rw [if_neg e5]
  exact Or.inl rfl
theorem zm_56 {k2 : bb_O → Int32 → Int32 → Int32 → Option (Int32 × bb_O)} {s : bb_O} {x1 x2 x3 : Int32} {c : Nat} (hc : c < 127) : F_X5_readPeople_56 k2 s x1 x2 x3 (nI c) = F_X5_readPeople_114 k2 s x1 x2 x3 (zkd c) := by
  have k : ∀ (a : Nat), a < 127 → (nI c = nI a ↔ c = a) := fun a ha => ⟨fun z => ((nI_eq (by omega) (by omega)).mp z), fun z => by rw [z]⟩
  unfold F_X5_readPeople_56 zkd
  rw [show (112 : Int32) = nI 112 from rfl, show (115 : Int32) = nI 115 from rfl, show (98 : Int32) = nI 98 from rfl, show (104 : Int32) = nI 104 from rfl, show (108 : Int32) = nI 108 from rfl]
  simp only [k 112 (by omega), k 115 (by omega), k 98 (by omega), k 104 (by omega), k 108 (by omega)]
  by_cases e1 : c = 112
  · rw [if_pos e1, if_pos e1]
  rw [if_neg e1, if_neg e1]
  by_cases e2 : c = 115
  · rw [if_pos e2, if_pos e2]
  rw [if_neg e2, if_neg e2]
  by_cases e3 : c = 98
  · rw [if_pos e3, if_pos e3]
  rw [if_neg e3, if_neg e3]
  by_cases e4 : c = 104
  · rw [if_pos e4, if_pos e4]
  rw [if_neg e4, if_neg e4]
  by_cases e5 : c = 108
  · rw [if_pos e5, if_pos e5]
  rw [if_neg e5, if_neg e5]
/-! ===== a fault stays ===== -/
theorem zn_165 {k2 : bb_O → Int32 → Int32 → Int32 → Option (Int32 × bb_O)} {s : bb_O} {p : Nat} (h : ZN s p) (x1 x2 x3 x5 x6 x7 x8 x9 : Int32) : F_X5_readPeople_165 k2 s x1 x2 x3 x5 x6 x7 x8 x9 = k2 s x1 x2 (x3 + 1) := by
  unfold F_X5_readPeople_165 F_X5_readPeople_223
  rw [h.2, if_neg z10]
theorem zn_159 {k2 : bb_O → Int32 → Int32 → Int32 → Option (Int32 × bb_O)} {s : bb_O} {p : Nat} (h : ZN s p) (x1 x2 x3 x5 x6 x7 x8 : Int32) : F_X5_readPeople_159 k2 s x1 x2 x3 x5 x6 x7 x8 = k2 s x1 x2 (x3 + 1) := by
  unfold F_X5_readPeople_159
  rw [zn_face h, Option.bind_some, zn_165 h]
theorem zn_150 {k2 : bb_O → Int32 → Int32 → Int32 → Option (Int32 × bb_O)} {s : bb_O} {p : Nat} (h : ZN s p) (x1 x2 x3 x5 x6 x7 : Int32) : F_X5_readPeople_150 k2 s x1 x2 x3 x5 x6 x7 = k2 s x1 x2 (x3 + 1) := by
  unfold F_X5_readPeople_150
  rw [zn_digit h, Option.bind_some, zn_159 h]
theorem zn_140 {k2 : bb_O → Int32 → Int32 → Int32 → Option (Int32 × bb_O)} {s : bb_O} {p : Nat} (h : ZN s p) (x1 x2 x3 x5 x6 : Int32) : F_X5_readPeople_140 k2 s x1 x2 x3 x5 x6 = k2 s x1 x2 (x3 + 1) := by
  unfold F_X5_readPeople_140
  rw [zn_digit h, Option.bind_some, zn_150 h]
/-- what one person's reading leaves as it was -/
def ZX (s s' : bb_O) : Prop := (∀ k, k ≠ 5 → k ≠ 6 → s'.1 k = s.1 k) ∧ (∀ k, k ≠ 7 → s'.2.1 k = s.2.1 k) ∧ s'.2.2 = s.2.2
theorem ZH.x {s s' : bb_O} (h : ZH s s') : ZX s s' := ⟨h.1, fun _ _ => by rw [h.2], by rw [h.2]⟩
theorem ZX.trans {a b c : bb_O} (h : ZX a b) (g : ZX b c) : ZX a c := ⟨fun k h1 h2 => (g.1 k h1 h2).trans (h.1 k h1 h2), fun k hk => (g.2.1 k hk).trans (h.2.1 k hk), g.2.2.trans h.2.2⟩
theorem z_person {g : Nat → Nat} {t x y : Nat} (hg : ZG g t) {T s c : bb_O} {w : Nat → Int32} (hC : ZC g t T x) (hM : ZM g t s y) (hx : x ≤ t) (hy : y ≤ t) (e : zpk g t x = zpk g t y) (hc : RC c w) (hi : ZI w) {P : Nat} (hP : P < 6) (h2 : gN w 2 = P) (k2 : bb_O → Int32 → Int32 → Int32 → Option (Int32 × bb_O)) : (∃ T' c' s' x' y' kd ce no fa, F_X3_readPerson_0 T c = some (1, (T', c')) ∧ F_X5_readPeople_41 k2 s (nI (gN w 0)) (nI (gN w 1)) (nI P) = k2 s' (nI (gN w 0)) (nI (gN w 1)) (nI (P + 1)) ∧ kd < 5 ∧ ce < gN w 0 * gN w 1 ∧ no < 10 ∧ fa < 64 ∧ RC c' (zcm w P (nI kd) (nI ce) (nI no) (nI fa)) ∧ ZC g t T' x' ∧ x' ≤ t ∧ ZM g t s' y' ∧ y' ≤ t ∧ zpk g t x' = zpk g t y' ∧ ZX s s' ∧ s'.2.1 7 (4 * P) = nI kd ∧ s'.2.1 7 (4 * P + 1) = nI ce ∧ s'.2.1 7 (4 * P + 2) = nI no ∧ s'.2.1 7 (4 * P + 3) = nI fa ∧ ∀ j, j < 4 * P → s'.2.1 7 j = s.2.1 7 j) ∨ ∃ T' c' s' z, F_X3_readPerson_0 T c = some (0, (T', c')) ∧ F_X5_readPeople_41 k2 s (nI (gN w 0)) (nI (gN w 1)) (nI P) = k2 s' (nI (gN w 0)) (nI (gN w 1)) (nI (P + 1)) ∧ ZC g t T' z ∧ ZN s' z ∧ ZX s s' := by
  have h90 := hg.1
  have hcy := hg.ch y
  have hp := zpk_le g hy
  have hcl := hi.cells
  have c0 : c.1 0 = nI (gN w 0) := hc.1.1.trans hi.1.1
  have c1 : c.1 1 = nI (gN w 1) := hc.1.2.1.trans hi.2.1.1
  have hR := hi.1.2
  have hK := hi.2.1.2
  have s0 : nI (gN w 0) - 1 = nI (gN w 0 - 1) := by rw [show (1 : Int32) = nI 1 from rfl, zs_le (by omega)]
  have s1 : nI (gN w 1) - 1 = nI (gN w 1 - 1) := by rw [show (1 : Int32) = nI 1 from rfl, zs_le (by omega)]
  have hM' : ZM g t (bb_sf s 5 (nI (zpk g t y))) (zpk g t y) := ⟨hM.1, rfl, hM.2.2.1, hM.2.2.2⟩
  have a0 : F_X5_readPeople_41 k2 s (nI (gN w 0)) (nI (gN w 1)) (nI P) = F_X5_readPeople_114 k2 (bb_sf s 5 (nI (zpk g t y))) (nI (gN w 0)) (nI (gN w 1)) (nI P) (zkd (zch g t y)) := by
    unfold F_X5_readPeople_41
    rw [if_pos hM.2.2.1, zm_here hg hM hy, Option.bind_some, zm_56 hcy]
  rw [a0]
  unfold F_X3_readPerson_0 F_X5_readPeople_114 F_X5_readPeople_127
  rw [zc_peek hg hC hx, Option.bind_some, zch_of e, e, zidx hcy, Option.bind_some]
  rcases zkd_is (zch g t y) with ek | ⟨kd, hkd, ek, hne⟩
  · right
    obtain ⟨s', m1, m2, m3⟩ := zm_must0 hM'
    refine ⟨bb_sf T 2 (nI (zpk g t y)), c, s', zpk g t y, ?_, ?_, ⟨hC.1, rfl, hC.2.2⟩, m2, ((ZH.f5 _ _).trans m3).x⟩
    · rw [ek, if_neg (show ¬ (0 : Int32) ≤ -1 by decide)]
    · rw [ek, if_pos (show (-1 : Int32) < 0 by decide), m1, Option.bind_some, zn_digit m2, Option.bind_some, zn_140 m2, nI_1]
  · have hlt : zpk g t y < t := by
      by_cases q : zpk g t y < t
      · exact q
      · exact absurd (by unfold zch; rw [if_neg q]) hne
    obtain ⟨sa, m1, m2, m3⟩ := zm_must1 hM'
    have hCa : ZC g t (bb_sf T 2 (nI (zpk g t y + 1))) (zpk g t y + 1) := ⟨hC.1, rfl, hC.2.2⟩
    rw [ek, if_pos (nI_pos' (by omega)), if_neg (nI_pos (by omega)), m1, Option.bind_some, show (bb_sf T 2 (nI (zpk g t y))).1 2 = nI (zpk g t y) from rfl, nI_1, zsf2]
    unfold F_X3_readCell_0 F_X3_readCell_52
    rw [c0, c1, s0, s1]
    rcases z_digit hg hCa m2 (by omega) (by omega) rfl (lo := 0) (hi := gN w 0 - 1) (by omega) (by omega) with ⟨v1, z1, T1, s1', u1, u2, u3, u4, u5, u6, u7, u8⟩ | ⟨z1, v1, T1, s1', u4, u5, u6, u7, u8⟩
    · rw [show (0 : Int32) = nI 0 from rfl, u4, u5, Option.bind_some, Option.bind_some, if_neg (zne4 (show v1 < 2 ^ 31 by omega))]
      unfold F_X5_readPeople_140
      rw [s1]
      rcases z_digit hg u6 u7 u3 u3 rfl (lo := 0) (hi := gN w 1 - 1) (by omega) (by omega) with ⟨v2, z2, T2, s2', w1, w2, w3, w4, w5, w6, w7, w8⟩ | ⟨z2, v2, T2, s2', w4, w5, w6, w7, w8⟩
      · have hce : v1 * gN w 1 + v2 < gN w 0 * gN w 1 := by
          have : (v1 + 1) * gN w 1 ≤ gN w 0 * gN w 1 := Nat.mul_le_mul_right _ (by omega)
          rw [Nat.add_mul, Nat.one_mul] at this
          omega
        rw [show (0 : Int32) = nI 0 from rfl, w4, w5, Option.bind_some, Option.bind_some, if_neg (zne4 (show v2 < 2 ^ 31 by omega)), pk_mul, nI_add, Option.bind_some, if_neg (zne4 (show v1 * gN w 1 + v2 < 2 ^ 31 by omega))]
        unfold F_X5_readPeople_150
        rcases z_digit hg w6 w7 w3 w3 rfl (lo := 0) (hi := 9) (by omega) (by omega) with ⟨v3, z3, T3, s3', b1, b2, b3, b4, b5, b6, b7, b8⟩ | ⟨z3, v3, T3, s3', b4, b5, b6, b7, b8⟩
        · rw [show (0 : Int32) = nI 0 from rfl, show (9 : Int32) = nI 9 from rfl, b4, b5, Option.bind_some, Option.bind_some, if_neg (zne4 (show v3 < 2 ^ 31 by omega))]
          unfold F_X5_readPeople_159 F_X3_readFeatures_0 F_X5_readFace_0 F_X5_readFace_20
          have hp3 := zpk_le g b3
          obtain ⟨fa, z4, T4, s4, d1, d2, d3, d4, d5, d6, d7⟩ := z_face hg 6 bb_N bb_N 0 z3 0 T3 (bb_sf s3' 5 (nI (zpk g t z3))) b6 ⟨b7.1, rfl, b7.2.2.1, b7.2.2.2⟩ b3 (by omega) (by decide) (by decide) (by decide) (fun f' h => by omega)
          dsimp only
          rw [show F_X3_readFeatures_4 bb_N T3 0 0 = some (nI fa, T4) from d3, Option.bind_some, if_pos b7.2.2.1, zm_here hg b7 b3, Option.bind_some]
          dsimp only
          rw [show F_X5_readFace_21 bb_N (bb_sf s3' 5 (nI (zpk g t z3))) 0 (nI (zch g t z3) - 97) = some (nI fa, s4) from d4, Option.bind_some]
          dsimp only
          obtain ⟨c', f1, f2⟩ := zc_enter hc hP (by rw [hi.2.2.1.1, h2]) (nI kd) (nI (v1 * gN w 1 + v2)) (nI v3) (nI fa)
          rw [f1, Option.bind_some]
          left
          have hz4 := zpk_le g d2
          unfold F_X5_readPeople_165 F_X5_readPeople_182 F_X5_readPeople_199 F_X5_readPeople_211 F_X5_readPeople_223
          have i0 : (4 : Int32) * nI P = nI (4 * P) := by rw [fa_lit 4, pk_mul]
          have i1 : nI (4 * P) + 1 = nI (4 * P + 1) := nI_1 _
          have i2 : nI (4 * P) + 2 = nI (4 * P + 2) := nI_add _ 2
          have i3 : nI (4 * P) + 3 = nI (4 * P + 3) := nI_add _ 3
          rw [if_pos (show s4.1 6 = 0 from d6.2.2.1), i0, i1, i2, i3, bb_g_pos (vp_in_nI (by omega) (by omega)), bb_g_pos (vp_in_nI (by omega) (by omega)), bb_g_pos (vp_in_nI (by omega) (by omega)), bb_g_pos (vp_in_nI (by omega) (by omega)), nI_clamp (n := 4 * P) (by omega), nI_clamp (n := 4 * P + 1) (by omega), nI_clamp (n := 4 * P + 2) (by omega), nI_clamp (n := 4 * P + 3) (by omega), nI_1, pk_mul, nI_add]
          simp only [zsA2, zsA_at]
          refine ⟨T4, c', bb_sA s4 7 (upd (upd (upd (upd (s4.2.1 7) (4 * P) (nI kd)) (4 * P + 1) (nI (v1 * gN w 1 + v2))) (4 * P + 2) (nI v3)) (4 * P + 3) (nI fa)), z4, zpk g t z4, kd, v1 * gN w 1 + v2, v3, fa, rfl, rfl, hkd, hce, by omega, d1, f2, d5, d2, ⟨d6.1, d6.2.1, d6.2.2.1, d6.2.2.2⟩, hz4.2, (zpk_idem g d2).symm, ?_, ?_, ?_, ?_, ?_, ?_⟩
          · have hh : ZH s s4 := ((((((ZH.f5 s _).trans m3).trans u8).trans w8).trans b8).trans (ZH.f5 _ _)).trans d7
            exact ⟨hh.1, fun k hk => (va_up_ne _ _ hk).trans (by rw [hh.2]), by show s4.2.2 = _; rw [hh.2]⟩
          · rw [zsA_at, zu_n _ _ (by omega), zu_n _ _ (by omega), zu_n _ _ (by omega), zu_s]
          · rw [zsA_at, zu_n _ _ (by omega), zu_n _ _ (by omega), zu_s]
          · rw [zsA_at, zu_n _ _ (by omega), zu_s]
          · rw [zsA_at, zu_s]
          · intro j hj
            have hh : ZH s s4 := ((((((ZH.f5 s _).trans m3).trans u8).trans w8).trans b8).trans (ZH.f5 _ _)).trans d7
            rw [zsA_at, zu_n _ _ (by omega), zu_n _ _ (by omega), zu_n _ _ (by omega), zu_n _ _ (by omega), hh.2]
        · right
          rw [show (0 : Int32) = nI 0 from rfl, show (9 : Int32) = nI 9 from rfl, b4, b5, Option.bind_some, Option.bind_some, if_pos rfl, zn_159 b7, nI_1]
          exact ⟨T3, c, s3', z3, rfl, rfl, b6, b7, (((((ZH.f5 s _).trans m3).trans u8).trans w8).trans b8).x⟩
      · right
        rw [show (0 : Int32) = nI 0 from rfl, w4, w5, Option.bind_some, Option.bind_some, if_pos rfl, Option.bind_some, if_pos rfl, zn_150 w7, nI_1]
        exact ⟨T2, c, s2', z2, rfl, rfl, w6, w7, ((((ZH.f5 s _).trans m3).trans u8).trans w8).x⟩
    · right
      rw [show (0 : Int32) = nI 0 from rfl, u4, u5, Option.bind_some, Option.bind_some, if_pos rfl, Option.bind_some, if_pos rfl, zn_140 u7, nI_1]
      exact ⟨T1, c, s1', z1, rfl, rfl, u6, u7, (((ZH.f5 s _).trans m3).trans u8).x⟩
