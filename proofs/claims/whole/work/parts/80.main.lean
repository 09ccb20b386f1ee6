def bb_m0 (s1 : bb_O) : bb_O := let s2 := bb_sA s1 0 (upd (s1.2.1 0) 8 1); let s3 := bb_sA s2 14 (upd (s2.2.1 14) 0 (-1)); let s4 := bb_sA s3 14 (upd (s3.2.1 14) 1 (-1)); let s5 := bb_sA s4 14 (upd (s4.2.1 14) 2 (-1)); bb_sA s5 14 (upd (s5.2.1 14) 3 (-1))
theorem bb_main : ∃ s1 : bb_O, F_X5_fresh_0 bb_o0 4 5 = some s1 ∧ ∀ (L : Nat) (xs : Nat → Int32), L ≤ 384 → F_L_law_18 L xs bb_N bb_h0 (bb_m0 s1) 0 = some 1 := by
  refine ⟨_, zm_fresh bb_o0 4 5, fun L xs hL => ?_⟩
  have hs : ZR bb_h0 (bb_m0 (upd bb_o0.1 9 0, va_up bb_o0.2.1 0 (zfr (bb_o0.2.1 0) 4 5), bb_o0.2.2)) := zstart
  exact zlaw (fun h => q_luck h) hL xs bb_N 0 bb_h0 _ hs (show L < 6 * 200 + 0 by omega) (by decide) (by omega)
