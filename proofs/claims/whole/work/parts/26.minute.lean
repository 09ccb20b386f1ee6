/-! ===== one MINUTE ===== -/
theorem zu_s (f : Nat → Int32) (k : Nat) (x : Int32) : upd f k x k = x := pk_us
theorem zu_n (f : Nat → Int32) {k j : Nat} (x : Int32) (h : j ≠ k) : upd f k x j = f j := pk_un h
theorem zg_n (f : Nat → Int32) {k j : Nat} (x : Int32) (h : j ≠ k) : gN (upd f k x) j = gN f j := by unfold gN; rw [zu_n f x h]
theorem ZI_of {w v : Nat → Int32} (hi : ZI w) (h : ∀ i, (i < 3 ∨ 9 ≤ i) → v i = w i) {k : Nat} (h3 : v 3 = nI k) (hk : k < gN w 0 * gN w 1) : ZI v := by
  have hm := hi.cells
  have hg : ∀ i, (i < 3 ∨ 9 ≤ i) → gN v i = gN w i := fun i q => by unfold gN; rw [h i q]
  have hg3 : gN v 3 = k := by unfold gN; rw [h3]; exact nI_clamp (by omega)
  obtain ⟨a0, a1, a2, a3, a4⟩ := hi
  refine ⟨?_, ?_, ?_, ?_, fun p hp => ?_⟩
  · rw [hg 0 (by omega), h 0 (by omega)]; exact a0
  · rw [hg 1 (by omega), h 1 (by omega)]; exact a1
  · rw [hg 2 (by omega), h 2 (by omega)]; exact a2
  · rw [hg3, hg 0 (by omega), hg 1 (by omega)]; exact ⟨h3, hk⟩
  · rw [hg 2 (by omega)] at hp
    have := a4 p hp
    rw [hg (9 + 5 * p) (by omega), h (9 + 5 * p) (by omega), hg (10 + 5 * p) (by omega), h (10 + 5 * p) (by omega), hg (11 + 5 * p) (by omega), h (11 + 5 * p) (by omega), hg (12 + 5 * p) (by omega), h (12 + 5 * p) (by omega), hg (13 + 5 * p) (by omega), h (13 + 5 * p) (by omega), hg 0 (by omega), hg 1 (by omega)]
    exact this
theorem RC_sf3 {c : bb_O} {w : Nat → Int32} (hc : RC c w) (x : Int32) : RC (bb_sf c 3 x) (upd w 3 x) := by
  obtain ⟨⟨a0, a1, a2, a3, a4, a5, a6, a7, a8⟩, hp⟩ := hc
  refine ⟨⟨?_, ?_, ?_, ?_, ?_, ?_, ?_, ?_, ?_⟩, fun p h => ?_⟩
  all_goals try (simp [bb_sf, upd, a0, a1, a2, a3, a4, a5, a6, a7, a8]; done)
  rw [zu_n w x (by omega), zu_n w x (by omega), zu_n w x (by omega), zu_n w x (by omega), zu_n w x (by omega)]
  exact hp p h
theorem RC_sf4 {c : bb_O} {w : Nat → Int32} (hc : RC c w) (x : Int32) : RC (bb_sf c 4 x) (upd w 5 x) := by
  obtain ⟨⟨a0, a1, a2, a3, a4, a5, a6, a7, a8⟩, hp⟩ := hc
  refine ⟨⟨?_, ?_, ?_, ?_, ?_, ?_, ?_, ?_, ?_⟩, fun p h => ?_⟩
  all_goals try (simp [bb_sf, upd, a0, a1, a2, a3, a4, a5, a6, a7, a8]; done)
  rw [zu_n w x (by omega), zu_n w x (by omega), zu_n w x (by omega), zu_n w x (by omega), zu_n w x (by omega)]
  exact hp p h
theorem RC_sf5 {c : bb_O} {w : Nat → Int32} (hc : RC c w) (x : Int32) : RC (bb_sf c 5 x) (upd w 4 x) := by
  obtain ⟨⟨a0, a1, a2, a3, a4, a5, a6, a7, a8⟩, hp⟩ := hc
  refine ⟨⟨?_, ?_, ?_, ?_, ?_, ?_, ?_, ?_, ?_⟩, fun p h => ?_⟩
  all_goals try (simp [bb_sf, upd, a0, a1, a2, a3, a4, a5, a6, a7, a8]; done)
  rw [zu_n w x (by omega), zu_n w x (by omega), zu_n w x (by omega), zu_n w x (by omega), zu_n w x (by omega)]
  exact hp p h
theorem RC_sf6 {c : bb_O} {w : Nat → Int32} (hc : RC c w) (x : Int32) : RC (bb_sf c 6 x) (upd w 6 x) := by
  obtain ⟨⟨a0, a1, a2, a3, a4, a5, a6, a7, a8⟩, hp⟩ := hc
  refine ⟨⟨?_, ?_, ?_, ?_, ?_, ?_, ?_, ?_, ?_⟩, fun p h => ?_⟩
  all_goals try (simp [bb_sf, upd, a0, a1, a2, a3, a4, a5, a6, a7, a8]; done)
  rw [zu_n w x (by omega), zu_n w x (by omega), zu_n w x (by omega), zu_n w x (by omega), zu_n w x (by omega)]
  exact hp p h
theorem RC_sf7 {c : bb_O} {w : Nat → Int32} (hc : RC c w) (x : Int32) : RC (bb_sf c 7 x) (upd w 7 x) := by
  obtain ⟨⟨a0, a1, a2, a3, a4, a5, a6, a7, a8⟩, hp⟩ := hc
  refine ⟨⟨?_, ?_, ?_, ?_, ?_, ?_, ?_, ?_, ?_⟩, fun p h => ?_⟩
  all_goals try (simp [bb_sf, upd, a0, a1, a2, a3, a4, a5, a6, a7, a8]; done)
  rw [zu_n w x (by omega), zu_n w x (by omega), zu_n w x (by omega), zu_n w x (by omega), zu_n w x (by omega)]
  exact hp p h
theorem RC_sf8 {c : bb_O} {w : Nat → Int32} (hc : RC c w) (x : Int32) : RC (bb_sf c 8 x) (upd w 8 x) := by
  obtain ⟨⟨a0, a1, a2, a3, a4, a5, a6, a7, a8⟩, hp⟩ := hc
  refine ⟨⟨?_, ?_, ?_, ?_, ?_, ?_, ?_, ?_, ?_⟩, fun p h => ?_⟩
  all_goals try (simp [bb_sf, upd, a0, a1, a2, a3, a4, a5, a6, a7, a8]; done)
  rw [zu_n w x (by omega), zu_n w x (by omega), zu_n w x (by omega), zu_n w x (by omega), zu_n w x (by omega)]
  exact hp p h
def zmv (w : Nat → Int32) : Nat → Int32 := if zfoll w 0 = -4 then w else upd w 3 (nI (znear (gN w 1) (gN w 3) (gN w (10 + 5 * (zfoll w 0).toNatClampNeg))))
def zwho (w : Nat → Int32) : Int32 := zfst (zmv w) (gN w 2) 0
def znm (w : Nat → Int32) : Int32 := nI (znamed w (gN w (12 + 5 * (zwho w).toNatClampNeg) ^^^ gN w (13 + 5 * (zwho w).toNatClampNeg)))
def zps (w : Nat → Int32) : Nat → Int32 := if zwho w = -4 then upd (zmv w) 4 (w 4 + 1) else upd (upd (upd (zmv w) 4 (w 4 + 1)) 5 (w 5 ||| ((1 : Int32) <<< (zwho w &&& 31)))) (if znm w = zwho w then 6 else 7) ((if znm w = zwho w then w 6 else w 7) + 1)
theorem zmv_n (w : Nat → Int32) {i : Nat} (h : i ≠ 3) : zmv w i = w i := by
  unfold zmv
  split
  · rfl
  · exact zu_n w _ h
theorem zmv_ZI {w : Nat → Int32} (hi : ZI w) : ZI (zmv w) := by
  unfold zmv
  split
  · exact hi
  · rename_i h
    rcases zfoll_is w 0 with e | ⟨j, hj, e⟩
    · exact absurd e h
    · have hp6 := hi.2.2.1.2
      rw [e, nI_clamp (by omega)]
      refine ZI_of hi (fun i q => zu_n w _ (by omega)) (zu_s w 3 _) (znear_lt (by have := hi.2.1.2.1; omega) hi.2.2.2.1.2 (hi.2.2.2.2 j hj).2.1.2)
theorem zwho_is (w : Nat → Int32) : zwho w = -4 ∨ ∃ j, j < gN w 2 ∧ zwho w = nI j ∧ bt (w 5) j = false := by
  rcases zfst_is (zmv w) (gN w 2) 0 with h | ⟨j, -, h2, h3, h4⟩
  · exact Or.inl h
  · exact Or.inr ⟨j, by omega, h3, by rw [zmv_n w (by omega)] at h4; exact h4⟩
theorem zne4 {j : Nat} (h : j < 2 ^ 31) : ¬ nI j = -4 := fun q => absurd (show nI j < 0 by rw [q]; decide) (nI_pos h)
theorem zps_hi (w : Nat → Int32) {i : Nat} (h : i < 3 ∨ 8 ≤ i) : zps w i = w i := by
  unfold zps
  split
  · rw [zu_n _ _ (by omega), zmv_n w (by omega)]
  · rw [zu_n _ _ (by split <;> omega), zu_n _ _ (by omega), zu_n _ _ (by omega), zmv_n w (by omega)]
theorem zps_3 (w : Nat → Int32) : zps w 3 = zmv w 3 := by
  unfold zps
  split
  · rw [zu_n _ _ (by omega)]
  · rw [zu_n _ _ (by split <;> omega), zu_n _ _ (by omega), zu_n _ _ (by omega)]
theorem zps_4 (w : Nat → Int32) : zps w 4 = w 4 + 1 := by
  unfold zps
  split
  · rw [zu_s]
  · rw [zu_n _ _ (by split <;> omega), zu_n _ _ (by omega), zu_s]
theorem zps_5 (w : Nat → Int32) : zps w 5 = if zwho w = -4 then w 5 else w 5 ||| ((1 : Int32) <<< (zwho w &&& 31)) := by
  unfold zps
  split
  · rw [zu_n _ _ (by omega), zmv_n w (by omega)]
  · rw [zu_n _ _ (by split <;> omega), zu_s]
theorem zps_ZI {w : Nat → Int32} (hi : ZI w) : ZI (zps w) := by
  have h2 := zmv_ZI hi
  have e0 : gN (zmv w) 0 = gN w 0 := by unfold gN; rw [zmv_n w (by omega)]
  have e1 : gN (zmv w) 1 = gN w 1 := by unfold gN; rw [zmv_n w (by omega)]
  refine ZI_of hi (fun i q => zps_hi w (by omega)) (k := gN (zmv w) 3) (by rw [zps_3]; exact h2.2.2.2.1.1) ?_
  have := h2.2.2.2.1.2
  rw [e0, e1] at this
  exact this
theorem zva_same {α : Type} (f : Nat → α) (k : Nat) : va_up f k (f k) = f := by
  funext j
  unfold va_up
  split
  · rename_i h; rw [h]
  · rfl
theorem zsA_same (s : bb_O) (k : Nat) : bb_sA s k (s.2.1 k) = s := by
  unfold bb_sA
  rw [zva_same]
theorem zc_pass {c : bb_O} {w : Nat → Int32} (hc : RC c w) (hi : ZI w) : ∃ c', F_X0_pass_0 c = some (zwho w, c') ∧ RC c' (zps w) := by
  have hp6 := hi.2.2.1.2
  have hm := hi.cells
  have hiv := zmv_ZI hi
  have g2 : gN (zmv w) 2 = gN w 2 := by unfold gN; rw [zmv_n w (by omega)]
  -- the step
  have key : ∃ c1, F_X0_pass_0 c = F_X0_pass_25 c1 ∧ RC c1 (zmv w) := by
    unfold F_X0_pass_0
    rw [zc_fol hc hi, Option.bind_some]
    unfold zmv
    rcases zfoll_is w 0 with e | ⟨j, hj, e⟩
    · rw [if_pos e, if_pos e]
      exact ⟨c, rfl, hc⟩
    · have hne : ¬ zfoll w 0 = -4 := by rw [e]; exact zne4 (by omega)
      rw [if_neg hne, if_neg hne, e, bb_g_pos (vp_in_nI (by omega) (by omega)), nI_clamp (by omega), (hc.2 j (by omega)).2.1, (hi.2.2.2.2 j hj).2.1.1, zc_near hc hi (hi.2.2.2.2 j hj).2.1.2, Option.bind_some]
      exact ⟨_, rfl, RC_sf3 hc _⟩
  obtain ⟨c1, hk, hc1⟩ := key
  rw [hk]
  unfold F_X0_pass_25
  have hfst : F_X0_firstOnHisCell_0 c1 = some (zwho w) := by
    have h := zc_fst hc1 hiv
    rw [g2] at h
    exact h
  rw [hfst, Option.bind_some]
  have h44 : c1.1 5 = w 4 := by rw [hc1.1.2.2.2.2.2.1, zmv_n w (by omega)]
  have h45 : c1.1 4 = w 5 := by rw [hc1.1.2.2.2.2.1, zmv_n w (by omega)]
  have h46 : c1.1 6 = w 6 := by rw [hc1.1.2.2.2.2.2.2.1, zmv_n w (by omega)]
  have h47 : c1.1 7 = w 7 := by rw [hc1.1.2.2.2.2.2.2.2.1, zmv_n w (by omega)]
  by_cases hn : zwho w = -4
  · rw [if_pos hn]
    refine ⟨_, rfl, ?_⟩
    have := RC_sf5 hc1 (c1.1 5 + 1)
    rw [h44] at this
    unfold zps
    rw [if_pos hn, h44]
    exact this
  · rw [if_neg hn]
    rcases zwho_is w with e | ⟨j, hj, e, -⟩
    · exact absurd e hn
    · have hc2 := RC_sf4 hc1 (c1.1 4 ||| ((1 : Int32) <<< (zwho w &&& 31)))
      have hi2 : ZI (upd (zmv w) 5 (c1.1 4 ||| ((1 : Int32) <<< (zwho w &&& 31)))) := ZI_of hiv (fun i q => zu_n _ _ (by omega)) (by rw [zu_n _ _ (by omega)]; exact hiv.2.2.2.1.1) hiv.2.2.2.1.2
      have hg : ∀ i, i ≠ 3 → i ≠ 5 → gN (upd (zmv w) 5 (c1.1 4 ||| ((1 : Int32) <<< (zwho w &&& 31)))) i = gN w i := fun i q1 q2 => by unfold gN; rw [zu_n _ _ q2, zmv_n w q1]
      have hfeel := zc_feel hc2 hi2 (p := j) (by rw [hg 2 (by omega) (by omega)]; exact hj)
      rw [hg _ (by omega) (by omega), hg _ (by omega) (by omega)] at hfeel
      have hx := zx64 (hi.2.2.2.2 j hj).2.2.2.1.2 (hi.2.2.2.2 j hj).2.2.2.2.2
      have hnam := zc_named hc2 hi2 hx (by rw [hg 2 (by omega) (by omega)]; omega)
      rw [znamed_cong (w := w) (fun i q => by rw [zu_n _ _ (by omega), zmv_n w (by omega)]) (by rw [zu_n _ _ (by omega), zmv_n w (by omega)])] at hnam
      have hznm : znm w = nI (znamed w (gN w (12 + 5 * j) ^^^ gN w (13 + 5 * j))) := by unfold znm; rw [e, nI_clamp (by omega)]
      have hf2 : F_X0_feel_0 (bb_sf c1 4 (c1.1 4 ||| ((1 : Int32) <<< (zwho w &&& 31)))) (zwho w) = some (nI (gN w (12 + 5 * j) ^^^ gN w (13 + 5 * j))) := by
        generalize (c1.1 4 ||| ((1 : Int32) <<< (zwho w &&& 31))) = y at hfeel ⊢
        rw [e]
        exact hfeel
      rw [hf2, Option.bind_some, hnam, Option.bind_some, ← hznm]
      unfold F_X0_pass_71 F_X0_pass_84 zps
      rw [if_neg hn]
      by_cases hr : znm w = zwho w
      · rw [if_pos hr, if_pos hr, if_pos hr]
        refine ⟨_, rfl, ?_⟩
        have h9 := RC_sf5 (RC_sf6 hc2 (w 6 + 1)) (w 4 + 1)
        show RC (bb_sf (bb_sf (bb_sf c1 4 (c1.1 4 ||| ((1 : Int32) <<< (zwho w &&& 31)))) 6 (c1.1 6 + 1)) 5 (c1.1 5 + 1)) _
        rw [h44, h46, h45]
        rw [h45] at h9
        rw [fa_upd_swap (zmv w) (show (4 : Nat) ≠ 5 by decide), fa_upd_swap _ (show (4 : Nat) ≠ 6 by decide)]
        exact h9
      · rw [if_neg hr, if_neg hr, if_neg hr]
        refine ⟨_, rfl, ?_⟩
        have h9 := RC_sf5 (RC_sf7 hc2 (w 7 + 1)) (w 4 + 1)
        show RC (bb_sf (bb_sf (bb_sf c1 4 (c1.1 4 ||| ((1 : Int32) <<< (zwho w &&& 31)))) 7 (c1.1 7 + 1)) 5 (c1.1 5 + 1)) _
        rw [h44, h47, h45]
        rw [h45] at h9
        rw [fa_upd_swap (zmv w) (show (4 : Nat) ≠ 5 by decide), fa_upd_swap _ (show (4 : Nat) ≠ 7 by decide)]
        exact h9
/-- the model's state behind a MINUTE -/
def zgo (μ : bb_O) (w : Nat → Int32) : bb_O := (upd (upd μ.1 1 (zwho w)) 2 (if zwho w = -4 then μ.1 2 else znm w), va_up μ.2.1 0 (zps w), μ.2.2)
theorem zm_goesBy {μ : bb_O} {w : Nat → Int32} (hw : μ.2.1 0 = w) (hi : ZI w) : F_X5_goesBy_0 μ = some (if zwho w = -4 then 0 else 1, zgo μ w) := by
  have hp6 := hi.2.2.1.2
  have hm := hi.cells
  have hiv := zmv_ZI hi
  have g2 : gN (zmv w) 2 = gN w 2 := by unfold gN; rw [zmv_n w (by omega)]
  have hC := hi.2.1.2.1
  -- the step
  have key : F_X5_goesBy_0 μ = F_X5_goesBy_77 (bb_sA μ 0 (zmv w)) := by
    unfold F_X5_goesBy_0
    rw [zm_fol hw hi, Option.bind_some]
    rcases zfoll_is w 0 with e | ⟨j, hj, e⟩
    · rw [if_pos e]
      unfold zmv
      rw [if_pos e]
      rw [← hw, zsA_same]
    · have hne : ¬ zfoll w 0 = -4 := by rw [e]; exact zne4 (by omega)
      have hk := (hi.2.2.2.2 j hj).2.1
      have hz : ¬ nI (gN w 1) = 0 := nI_ne0 (by omega) (by have := hi.2.1.2.2; omega)
      have hK := hi.2.2.2.1.2
      have hC6 := hi.2.1.2.2
      rw [if_neg hne, e, show (1 : Int32) = nI 1 from rfl, zm_told hw (by omega) (by omega), Option.bind_some, hw, show 9 + 5 * j + 1 = 10 + 5 * j by omega, hk.1, hi.2.1.1, hi.2.2.2.1.1, bb_g_pos hz, bb_g_pos hz, pk_div (by omega) (by omega) (by omega), pk_div (by omega) (by omega) (by omega)]
      have d1 := Nat.div_le_self (gN w (10 + 5 * j)) (gN w 1)
      have d2 := Nat.div_le_self (gN w 3) (gN w 1)
      have d3 := Nat.mod_le (gN w (10 + 5 * j)) (gN w 1)
      have d4 := Nat.mod_le (gN w 3) (gN w 1)
      rw [zm_nearer (by omega) (by omega), Option.bind_some, bb_g_pos hz, bb_g_pos hz, zmod (by omega) (by omega) (by omega), zmod (by omega) (by omega) (by omega), zm_nearer (by omega) (by omega), Option.bind_some]
      unfold F_X5_goesBy_75 zmv
      rw [if_neg hne, e, nI_clamp (by omega)]
      have h3 : vp_in (3 : Int32) 39 := show ¬ ((3 : Int32) < 0 ∨ 39 ≤ (3 : Int32).toNatClampNeg) by decide
      rw [bb_g_pos h3, bb_g_pos h3, show (3 : Int32).toNatClampNeg = 3 by decide, hw]
      by_cases q : gN w (10 + 5 * j) / gN w 1 = gN w 3 / gN w 1
      · rw [if_pos (show (if gN w 3 / gN w 1 < gN w (10 + 5 * j) / gN w 1 then (1 : Int32) else if gN w (10 + 5 * j) / gN w 1 < gN w 3 / gN w 1 then -1 else 0) = 0 by rw [if_neg (by omega), if_neg (by omega)])]
        rw [znear_row (by omega) q (by omega)]
      · have hor : gN w 3 / gN w 1 < gN w (10 + 5 * j) / gN w 1 ∨ gN w (10 + 5 * j) / gN w 1 < gN w 3 / gN w 1 := by omega
        rw [if_neg (show ¬ (if gN w 3 / gN w 1 < gN w (10 + 5 * j) / gN w 1 then (1 : Int32) else if gN w (10 + 5 * j) / gN w 1 < gN w 3 / gN w 1 then -1 else 0) = 0 by
          rcases hor with h | h
          · rw [if_pos h]; decide
          · rw [if_neg (by omega), if_pos h]; decide)]
        rw [znear_m (by omega) (by omega), if_pos hor]
  rw [key]
  unfold F_X5_goesBy_77 F_X5_goesBy_83
  have e2 : (bb_sf (bb_sA μ 0 (zmv w)) 1 (-4)).2.1 0 = zmv w := va_up_self μ.2.1 0 (zmv w)
  rw [e2, hiv.2.2.1.1, Int32.sub_eq_add_neg]
  have hL := zm_fstL hiv (gN (zmv w) 2) bb_N (bb_sf (bb_sA μ 0 (zmv w)) 1 (-4)) (Nat.le_refl _) (by unfold bb_N; omega) e2 (by rw [Nat.sub_self]; rfl)
  refine Eq.trans hL ?_
  rw [zsf2, g2]
  change F_X5_goesBy_147 (bb_sA (bb_sf (bb_sA μ 0 (zmv w)) 1 (zwho w)) 0 (upd (zmv w) 4 (zmv w 4 + 1))) = _
  rw [zmv_n w (show 4 ≠ 3 by decide)]
  have e3 : bb_sA (bb_sf (bb_sA μ 0 (zmv w)) 1 (zwho w)) 0 (upd (zmv w) 4 (w 4 + 1)) = (upd μ.1 1 (zwho w), va_up μ.2.1 0 (upd (zmv w) 4 (w 4 + 1)), μ.2.2) := by
    unfold bb_sA bb_sf
    rw [bx_uu]
  rw [e3]
  unfold F_X5_goesBy_147
  show (if zwho w = -4 then _ else _) = _
  by_cases hn : zwho w = -4
  · rw [if_pos hn, if_pos hn]
    have hsame : upd (upd μ.1 1 (zwho w)) 2 (μ.1 2) = upd μ.1 1 (zwho w) := by
      have := zup_same (upd μ.1 1 (zwho w)) 2
      rw [zu_n μ.1 _ (show 2 ≠ 1 by decide)] at this
      exact this
    unfold zgo zps
    rw [if_pos hn, if_pos hn, hsame]
  · rw [if_neg hn, if_neg hn]
    rcases zwho_is w with e | ⟨j, hj, e, -⟩
    · exact absurd e hn
    · generalize hs : ((upd μ.1 1 (zwho w), va_up μ.2.1 0 (upd (zmv w) 4 (w 4 + 1)), μ.2.2) : bb_O) = s
      have hsw : s.2.1 0 = upd (zmv w) 4 (w 4 + 1) := by rw [← hs]; exact va_up_self μ.2.1 0 _
      have hi2 : ZI (upd (zmv w) 4 (w 4 + 1)) := ZI_of hiv (fun i q => zu_n _ _ (by omega)) (by rw [zu_n _ _ (by omega)]; exact hiv.2.2.2.1.1) hiv.2.2.2.1.2
      have hv : ∀ i, i ≠ 3 → i ≠ 4 → upd (zmv w) 4 (w 4 + 1) i = w i := fun i q1 q2 => by rw [zu_n _ _ q2, zmv_n w q1]
      have hg : ∀ i, i ≠ 3 → i ≠ 4 → gN (upd (zmv w) 4 (w 4 + 1)) i = gN w i := fun i q1 q2 => by unfold gN; rw [hv i q1 q2]
      have h1 : F_X5_told_0 s (s.1 1) 4 = some (nI (gN w (13 + 5 * j))) := by
        rw [show s.1 1 = nI j by rw [← hs]; show upd μ.1 1 (zwho w) 1 = _; rw [zu_s, e], show (4 : Int32) = nI 4 from rfl, zm_told hsw (by omega) (by omega), show 9 + 5 * j + 4 = 13 + 5 * j by omega, hv _ (by omega) (by omega), (hi.2.2.2.2 j hj).2.2.2.2.1]
      have h2 : F_X5_named_0 s (s.1 1) (nI (gN w (13 + 5 * j))) = some (znm w) := by
        rw [show s.1 1 = nI j by rw [← hs]; show upd μ.1 1 (zwho w) 1 = _; rw [zu_s, e], zm_named hsw hi2 (by rw [hg 2 (by omega) (by omega)]; exact hj) (hi.2.2.2.2 j hj).2.2.2.2.2, hg _ (by omega) (by omega), znamed_cong (w := w) (fun i q => hv i (by omega) (by omega)) (hv 2 (by omega) (by omega))]
        unfold znm
        rw [e, nI_clamp (by omega)]
      show (F_X5_told_0 s (s.1 1) 4).bind _ = _
      rw [h1, Option.bind_some, h2, Option.bind_some]
      unfold F_X5_goesBy_179 F_X5_goesBy_194 F_X5_goesBy_216 F_X5_goesBy_221
      rw [show (bb_sf s 2 (znm w)).2.1 0 = upd (zmv w) 4 (w 4 + 1) from hsw, hv 5 (by omega) (by omega)]
      rw [show (bb_sf s 2 (znm w)).1 1 = zwho w by rw [← hs]; show upd (upd μ.1 1 (zwho w)) 2 (znm w) 1 = _; rw [zu_n _ _ (by omega), zu_s]]
      generalize hs2 : bb_sA (bb_sf s 2 (znm w)) 0 (upd (upd (zmv w) 4 (w 4 + 1)) 5 (w 5 ||| ((1 : Int32) <<< (zwho w &&& 31)))) = s2
      have a1 : s2.1 1 = zwho w := by rw [← hs2, ← hs]; show upd (upd μ.1 1 (zwho w)) 2 (znm w) 1 = _; rw [zu_n _ _ (by omega), zu_s]
      have a2 : s2.1 2 = znm w := by rw [← hs2]; exact zu_s s.1 2 (znm w)
      have a3 : s2.2.1 0 = upd (upd (zmv w) 4 (w 4 + 1)) 5 (w 5 ||| ((1 : Int32) <<< (zwho w &&& 31))) := by rw [← hs2]; exact va_up_self s.2.1 0 _
      have a6 : s2.2.1 0 6 = w 6 := by rw [a3, zu_n _ _ (by omega), hv 6 (by omega) (by omega)]
      have a7 : s2.2.1 0 7 = w 7 := by rw [a3, zu_n _ _ (by omega), hv 7 (by omega) (by omega)]
      have v6 : vp_in (6 : Int32) 39 := show ¬ ((6 : Int32) < 0 ∨ 39 ≤ (6 : Int32).toNatClampNeg) by decide
      have v7 : vp_in (7 : Int32) 39 := show ¬ ((7 : Int32) < 0 ∨ 39 ≤ (7 : Int32).toNatClampNeg) by decide
      rw [a1, a2, bb_g_pos v6, bb_g_pos v6, bb_g_pos v7, bb_g_pos v7, show (6 : Int32).toNatClampNeg = 6 by decide, show (7 : Int32).toNatClampNeg = 7 by decide, a6, a7, a3]
      unfold zgo zps
      rw [if_neg hn, if_neg hn]
      have fin : ∀ f, bb_sA s2 0 f = (upd (upd μ.1 1 (zwho w)) 2 (znm w), va_up μ.2.1 0 f, μ.2.2) := fun f => by
        rw [← hs2, zsA2, ← hs]
        unfold bb_sA bb_sf
        rw [bx_uu]
      by_cases hr : znm w = zwho w
      · rw [if_pos hr, if_pos hr, if_pos hr, fin]
      · rw [if_neg hr, if_neg hr, if_neg hr, fin]
