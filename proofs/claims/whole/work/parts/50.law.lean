/-! ===== the law's loop ===== -/
theorem zlaw1 {A : Option (Int32 × bb_H)} {B : Option (Int32 × bb_O)} (hq : ZO A B) {k : bb_H → bb_O → Int32 → Option Int32} {x : Int32} (hk : ∀ σ μ, ZR σ μ → k σ μ x = some 1) : (A.bind (fun q => B.bind (fun q' => if q.1 = q'.1 then k q.2 q'.2 x else some 0))) = some 1 := by
  obtain ⟨r, σ, μ, e1, e2, h⟩ := hq
  rw [e1, e2, Option.bind_some, Option.bind_some, if_pos rfl]
  exact hk σ μ h
theorem zlaw2 {A B : Option Int32} (hq : ∃ r, A = some r ∧ B = some r) {σ : bb_H} {μ : bb_O} {k : bb_H → bb_O → Int32 → Option Int32} {x : Int32} (hk : k σ μ x = some 1) : (A.bind (fun q => B.bind (fun q' => if q = q' then k σ μ x else some 0))) = some 1 := by
  obtain ⟨r, e1, e2⟩ := hq
  rw [e1, e2, Option.bind_some, Option.bind_some, if_pos rfl]
  exact hk
theorem zlaw (hluck : ∀ {σ : bb_H} {μ : bb_O}, ZR σ μ → ∀ (x y z : Int32), ∃ r, F_X4_luck_0 σ x y z = some r ∧ F_X5_luck_0 μ x y z = some r) {L : Nat} (hL : L ≤ 384) (xs : Nat → Int32) : ∀ (n k : Nat) (σ : bb_H) (μ : bb_O), ZR σ μ → L < 6 * n + k → 1 ≤ n → k ≤ 1000 → F_L_law_18 L xs n σ μ (nI k) = some 1 := by
  intro n
  induction n with
  | zero =>
    intro k σ μ h h1 h2
    omega
  | succ n ih =>
    intro k σ μ h h1 h2 h3
    show G_L_law_18 L xs (F_L_law_18 L xs n) σ μ (nI k) = some 1
    by_cases hs : L < 6 + k
    · unfold G_L_law_18
      have hlt : Int32.ofNat L - 6 < nI k := by
        rw [fa_lt, nI_toInt (show k < 2 ^ 31 by omega)]
        have : ∀ l, l < 385 → (Int32.ofNat l - 6).toInt = (l : Int) - 6 := by decide +kernel
        rw [this L (by omega)]
        omega
      rw [if_pos hlt]
    · have hnl : ¬ Int32.ofNat L - 6 < nI k := by
        rw [fa_lt, nI_toInt (show k < 2 ^ 31 by omega)]
        have : ∀ l, l < 385 → (Int32.ofNat l - 6).toInt = (l : Int) - 6 := by decide +kernel
        rw [this L (by omega)]
        omega
      have g0 : vp_in (nI k) L := vp_in_nI (by omega) (by omega)
      have g1 : vp_in (nI k + 1) L := by rw [nI_1]; exact vp_in_nI (by omega) (by omega)
      have g2 : vp_in (nI k + 2) L := by rw [show nI k + 2 = nI (k + 2) from nI_add k 2]; exact vp_in_nI (by omega) (by omega)
      have g3 : vp_in (nI k + 3) L := by rw [show nI k + 3 = nI (k + 3) from nI_add k 3]; exact vp_in_nI (by omega) (by omega)
      have g4 : vp_in (nI k + 4) L := by rw [show nI k + 4 = nI (k + 4) from nI_add k 4]; exact vp_in_nI (by omega) (by omega)
      have g5 : vp_in (nI k + 5) L := by rw [show nI k + 5 = nI (k + 5) from nI_add k 5]; exact vp_in_nI (by omega) (by omega)
      have go : ∀ σ μ, ZR σ μ → F_L_law_18 L xs n σ μ (nI k + 6) = some 1 := fun σ μ h => by
        rw [show nI k + 6 = nI (k + 6) from nI_add k 6]
        exact ih (k + 6) σ μ h (by omega) (by omega) (by omega)
      unfold G_L_law_18 F_L_law_1141
      rw [if_neg hnl]
      simp only [bb_g_pos g0, bb_g_pos g1, bb_g_pos g2, bb_g_pos g3, bb_g_pos g4, bb_g_pos g5]
      generalize xs (nI k).toNatClampNeg &&& 31 = op
      by_cases c0 : op = 0
      · rw [if_pos c0]
        exact zlaw1 (q_streets h _ _) go
      rw [if_neg c0]
      by_cases c1 : op = 1
      · rw [if_pos c1]
        exact zlaw1 (q_person h _ _ _ _) go
      rw [if_neg c1]
      by_cases c2 : op = 2
      · rw [if_pos c2]
        exact zlaw2 (q_of h _ _) (go σ μ h)
      rw [if_neg c2]
      by_cases c3 : op = 3
      · rw [if_pos c3]
        exact zlaw1 (q_rule h _ _ _) go
      rw [if_neg c3]
      by_cases c4 : op = 4
      · rw [if_pos c4]
        exact zlaw1 (q_type h _) go
      rw [if_neg c4]
      by_cases c5 : op = 5
      · rw [if_pos c5]
        exact zlaw1 (q_city h) go
      rw [if_neg c5]
      by_cases c6 : op = 6
      · rw [if_pos c6]
        exact zlaw2 (q_count h _) (go σ μ h)
      rw [if_neg c6]
      by_cases c7 : op = 7
      · rw [if_pos c7]
        exact zlaw1 (q_minutes h _) go
      rw [if_neg c7]
      by_cases c8 : op = 8
      · rw [if_pos c8]
        exact zlaw1 (q_walk h _ _) go
      rw [if_neg c8]
      by_cases c9 : op = 9
      · rw [if_pos c9]
        exact zlaw1 (q_free h _) go
      rw [if_neg c9]
      by_cases c10 : op = 10
      · rw [if_pos c10]
        exact zlaw1 (q_drift h _) go
      rw [if_neg c10]
      by_cases c11 : op = 11
      · rw [if_pos c11]
        exact zlaw1 (q_undo h) go
      rw [if_neg c11]
      by_cases c12 : op = 12
      · rw [if_pos c12]
        exact zlaw1 (q_seed h _) go
      rw [if_neg c12]
      by_cases c13 : op = 13
      · rw [if_pos c13]
        exact zlaw1 (q_ahead h _ _) go
      rw [if_neg c13]
      by_cases c14 : op = 14
      · rw [if_pos c14]
        exact zlaw1 (q_next h _) go
      rw [if_neg c14]
      by_cases c15 : op = 15
      · rw [if_pos c15]
        exact zlaw1 (q_stand h _ _) go
      rw [if_neg c15]
      by_cases c16 : op = 16
      · rw [if_pos c16]
        exact zlaw1 (q_hush h _ _) go
      rw [if_neg c16]
      by_cases c17 : op = 17
      · rw [if_pos c17]
        exact zlaw2 (q_mask h _ _) (go σ μ h)
      rw [if_neg c17]
      by_cases c18 : op = 18
      · rw [if_pos c18]
        exact zlaw2 (q_alike h _ _) (go σ μ h)
      rw [if_neg c18]
      by_cases c19 : op = 19
      · rw [if_pos c19]
        exact zlaw1 (q_turned h _ _) go
      rw [if_neg c19]
      by_cases c20 : op = 20
      · rw [if_pos c20]
        exact zlaw2 (hluck h _ _ _) (go σ μ h)
      rw [if_neg c20]
      by_cases c21 : op = 21
      · rw [if_pos c21]
        exact zlaw1 (q_image h) go
      rw [if_neg c21]
      by_cases c22 : op = 22
      · rw [if_pos c22]
        exact zlaw1 (q_restore h) go
      rw [if_neg c22]
      by_cases c23 : op = 23
      · rw [if_pos c23]
        exact zlaw1 (q_seen h _ _ _ _ _) go
      rw [if_neg c23]
      by_cases c24 : op = 24
      · rw [if_pos c24]
        exact zlaw1 (q_film h _ _ _ _) go
      rw [if_neg c24]
      by_cases c25 : op = 25
      · rw [if_pos c25]
        exact zlaw1 (q_sheet h _ _ _) go
      rw [if_neg c25]
      by_cases c26 : op = 26
      · rw [if_pos c26]
        exact zlaw1 (q_drop h _) go
      rw [if_neg c26]
      by_cases c27 : op = 27
      · rw [if_pos c27]
        exact zlaw1 (q_item h _ _ _ _) go
      rw [if_neg c27]
      by_cases c28 : op = 28
      · rw [if_pos c28]
        exact zlaw1 (q_copy h _ _ _ _ _) go
      rw [if_neg c28]
      exact go σ μ h
theorem zstart : ZR bb_h0 (bb_sA (bb_sA (bb_sA (bb_sA (bb_sA (upd bb_o0.1 9 0, va_up bb_o0.2.1 0 (zfr (bb_o0.2.1 0) 4 5), bb_o0.2.2) 0 (upd (zfr (bb_o0.2.1 0) 4 5) 8 1)) 14 (upd (bb_o0.2.1 14) 0 (-1))) 14 (upd (upd (bb_o0.2.1 14) 0 (-1)) 1 (-1))) 14 (upd (upd (upd (bb_o0.2.1 14) 0 (-1)) 1 (-1)) 2 (-1))) 14 (upd (upd (upd (upd (bb_o0.2.1 14) 0 (-1)) 1 (-1)) 2 (-1)) 3 (-1))) := by
  refine ⟨⟨⟨⟨rfl, rfl, rfl, rfl, rfl, rfl, rfl, rfl, rfl⟩, fun p hp => ?_⟩, ?_, ?_⟩, Or.inl ⟨rfl, rfl⟩, ⟨0, by omega, rfl, rfl, fun i hi => by omega⟩, ?_, ?_, ?_, ?_⟩
  · have z : ∀ i, 9 ≤ i → upd (zfr (bb_o0.2.1 0) 4 5) 8 1 i = 0 := fun i hi => by
      rw [zu_n _ _ (by omega), zfr_hi _ _ _ (by omega)]
      rfl
    exact ⟨(z _ (by omega)).symm, (z _ (by omega)).symm, (z _ (by omega)).symm, (z _ (by omega)).symm, (z _ (by omega)).symm⟩
  · have hz : ZI (zfr (bb_o0.2.1 0) (nI 4) (nI 5)) := zfr_ZI _ (by omega) (by omega) (by omega) (by omega)
    exact ZI_of (v := upd (zfr (bb_o0.2.1 0) 4 5) 8 1) hz (fun i q => zu_n _ _ (by omega)) (k := 0) rfl (by decide)
  · exact ⟨0, 0, by omega, by omega, rfl, rfl, rfl, fun j hj => by omega⟩
  · exact ⟨rfl, Or.inl ⟨rfl, rfl⟩, fun _ _ => rfl⟩
  · exact ⟨rfl, Or.inl ⟨rfl, rfl⟩, fun _ _ => rfl⟩
  · exact ⟨rfl, Or.inl ⟨rfl, rfl⟩, fun _ _ => rfl⟩
  · exact ⟨rfl, Or.inl ⟨rfl, rfl⟩, fun _ _ => rfl⟩
