def wX0 (cs : Nat → ClassId) (h : Nat → Nat) (σ : bb_O) : va_W := [(h 0, .inr (0, [.int (σ.1 0), .int (σ.1 1), .int (σ.1 2), .int (σ.1 3), .int (σ.1 4), .int (σ.1 5), .int (σ.1 6), .int (σ.1 7), .int (σ.1 8), .ref (h 10), .ref (h 11), .ref (h 12), .ref (h 13), .ref (h 14)])), (h 10, .inl (cs 0, 6, .inl (σ.2.1 9))), (h 11, .inl (cs 0, 6, .inl (σ.2.1 10))), (h 12, .inl (cs 0, 6, .inl (σ.2.1 11))), (h 13, .inl (cs 0, 6, .inl (σ.2.1 12))), (h 14, .inl (cs 0, 6, .inl (σ.2.1 13)))]
def wX2 (cs : Nat → ClassId) (h : Nat → Nat) (σ : bb_O) : va_W := [(h 0, .inr (2, [.int (σ.1 0), .int (σ.1 1), .ref (h 3)])), (h 3, .inl (cs 1, 24, .inr (.inl (σ.2.2 2))))]
def wX3 (cs : Nat → ClassId) (h : Nat → Nat) (σ : bb_O) : va_W := [(h 0, .inr (3, [.ref (h 1), .int (σ.1 1), .int (σ.1 2)])), (h 1, .inl (cs 2, 90, .inl (σ.2.1 0)))]
def wX5 (cs : Nat → ClassId) (h : Nat → Nat) (σ : bb_O) : va_W := [(h 0, .inr (5, [.ref (h 1), .int (σ.1 1), .int (σ.1 2), .ref (h 4), .int (σ.1 4), .int (σ.1 5), .int (σ.1 6), .ref (h 8), .ref (h 9), .int (σ.1 9), .ref (h 11), .ref (h 12), .int (σ.1 12), .int (σ.1 13), .ref (h 15), .ref (h 16), .ref (h 17), .ref (h 18)])), (h 1, .inl (cs 0, 39, .inl (σ.2.1 0))), (h 4, .inl (cs 0, 90, .inl (σ.2.1 3))), (h 8, .inl (cs 0, 24, .inl (σ.2.1 7))), (h 9, .inl (cs 0, 96, .inl (σ.2.1 8))), (h 11, .inl (cs 0, 39, .inl (σ.2.1 10))), (h 12, .inl (cs 0, 135, .inl (σ.2.1 11))), (h 15, .inl (cs 0, 4, .inl (σ.2.1 14))), (h 16, .inl (cs 0, 4, .inl (σ.2.1 15))), (h 17, .inl (cs 1, 96, .inr (.inl (σ.2.2 16)))), (h 18, .inl (cs 1, 24, .inr (.inl (σ.2.2 17))))]
def wX1 (cs : Nat → ClassId) (h : Nat → Nat) (σ : bb_O) : va_W := [(h 0, .inr (1, [.ref (h 1), .int (σ.1 1), .int (σ.1 2)])), (h 1, .inl (cs 3, 8, .inr (.inr (.inr (.inr (fun i => if i < 8 then some (h (10 + i)) else none)))))), (h 10, .inl (cs 0, 12, .inl (σ.2.1 0))), (h 11, .inl (cs 0, 12, .inl (σ.2.1 1))), (h 12, .inl (cs 0, 12, .inl (σ.2.1 2))), (h 13, .inl (cs 0, 12, .inl (σ.2.1 3))), (h 14, .inl (cs 0, 12, .inl (σ.2.1 4))), (h 15, .inl (cs 0, 12, .inl (σ.2.1 5))), (h 16, .inl (cs 0, 12, .inl (σ.2.1 6))), (h 17, .inl (cs 0, 12, .inl (σ.2.1 7)))]
def wX4 (cs : Nat → ClassId) (h : Nat → Nat → Nat) (σ : bb_H) : va_W := [(h 5 0, .inr (4, [.ref (h 0 0), .ref (h 1 0), .ref (h 2 0), .ref (h 3 0), .ref (h 4 0), .int ((σ 5).1 5), .ref (h 6 0), .ref (h 5 8)])), (h 5 8, .inl (cs 4, 4, .inr (.inr (.inr (.inr (fun i => if i < 4 then some (h (7 + i) 0) else none))))))] ++ (wX0 cs (h 0) (σ 0) ++ (wX1 cs (h 1) (σ 1) ++ (wX0 cs (h 2) (σ 2) ++ (wX0 cs (h 3) (σ 3) ++ (wX1 cs (h 4) (σ 4) ++ (wX3 cs (h 6) (σ 6) ++ (wX2 cs (h 7) (σ 7) ++ (wX2 cs (h 8) (σ 8) ++ (wX2 cs (h 9) (σ 9) ++ wX2 cs (h 10) (σ 10))))))))))
set_option maxRecDepth 100000 in
theorem cut_X4_0 (cs : Nat → ClassId) (h : Nat → Nat → Nat) (σ : bb_H) (τ : bb_O) : bb_cut (wX4 cs h σ) (wX0 cs (h 0) (σ 0)) (wX4 cs h (va_up σ 0 τ)) (wX0 cs (h 0) τ) := (cut_r cut_h)
set_option maxRecDepth 100000 in
theorem cut_X4_1 (cs : Nat → ClassId) (h : Nat → Nat → Nat) (σ : bb_H) (τ : bb_O) : bb_cut (wX4 cs h σ) (wX1 cs (h 1) (σ 1)) (wX4 cs h (va_up σ 1 τ)) (wX1 cs (h 1) τ) := (cut_r (cut_r cut_h))
set_option maxRecDepth 100000 in
theorem cut_X4_2 (cs : Nat → ClassId) (h : Nat → Nat → Nat) (σ : bb_H) (τ : bb_O) : bb_cut (wX4 cs h σ) (wX0 cs (h 2) (σ 2)) (wX4 cs h (va_up σ 2 τ)) (wX0 cs (h 2) τ) := (cut_r (cut_r (cut_r cut_h)))
set_option maxRecDepth 100000 in
theorem cut_X4_3 (cs : Nat → ClassId) (h : Nat → Nat → Nat) (σ : bb_H) (τ : bb_O) : bb_cut (wX4 cs h σ) (wX0 cs (h 3) (σ 3)) (wX4 cs h (va_up σ 3 τ)) (wX0 cs (h 3) τ) := (cut_r (cut_r (cut_r (cut_r cut_h))))
set_option maxRecDepth 100000 in
theorem cut_X4_4 (cs : Nat → ClassId) (h : Nat → Nat → Nat) (σ : bb_H) (τ : bb_O) : bb_cut (wX4 cs h σ) (wX1 cs (h 4) (σ 4)) (wX4 cs h (va_up σ 4 τ)) (wX1 cs (h 4) τ) := (cut_r (cut_r (cut_r (cut_r (cut_r cut_h)))))
set_option maxRecDepth 100000 in
theorem cut_X4_6 (cs : Nat → ClassId) (h : Nat → Nat → Nat) (σ : bb_H) (τ : bb_O) : bb_cut (wX4 cs h σ) (wX3 cs (h 6) (σ 6)) (wX4 cs h (va_up σ 6 τ)) (wX3 cs (h 6) τ) := (cut_r (cut_r (cut_r (cut_r (cut_r (cut_r cut_h))))))
set_option maxRecDepth 100000 in
theorem cut_X4_7 (cs : Nat → ClassId) (h : Nat → Nat → Nat) (σ : bb_H) (τ : bb_O) : bb_cut (wX4 cs h σ) (wX2 cs (h 7) (σ 7)) (wX4 cs h (va_up σ 7 τ)) (wX2 cs (h 7) τ) := (cut_r (cut_r (cut_r (cut_r (cut_r (cut_r (cut_r cut_h)))))))
set_option maxRecDepth 100000 in
theorem cut_X4_8 (cs : Nat → ClassId) (h : Nat → Nat → Nat) (σ : bb_H) (τ : bb_O) : bb_cut (wX4 cs h σ) (wX2 cs (h 8) (σ 8)) (wX4 cs h (va_up σ 8 τ)) (wX2 cs (h 8) τ) := (cut_r (cut_r (cut_r (cut_r (cut_r (cut_r (cut_r (cut_r cut_h))))))))
set_option maxRecDepth 100000 in
theorem cut_X4_9 (cs : Nat → ClassId) (h : Nat → Nat → Nat) (σ : bb_H) (τ : bb_O) : bb_cut (wX4 cs h σ) (wX2 cs (h 9) (σ 9)) (wX4 cs h (va_up σ 9 τ)) (wX2 cs (h 9) τ) := (cut_r (cut_r (cut_r (cut_r (cut_r (cut_r (cut_r (cut_r (cut_r cut_h)))))))))
set_option maxRecDepth 100000 in
theorem cut_X4_10 (cs : Nat → ClassId) (h : Nat → Nat → Nat) (σ : bb_H) (τ : bb_O) : bb_cut (wX4 cs h σ) (wX2 cs (h 10) (σ 10)) (wX4 cs h (va_up σ 10 τ)) (wX2 cs (h 10) τ) := (cut_r (cut_r (cut_r (cut_r (cut_r (cut_r (cut_r (cut_r (cut_r (cut_r (bb_cut_self _ _)))))))))))
set_option maxRecDepth 100000 in
theorem cut_X4_1_0 (cs : Nat → ClassId) (h : Nat → Nat → Nat) (σ : bb_H) (τ υ : bb_O) : bb_cut (wX4 cs h σ) (wX1 cs (h 1) (σ 1) ++ wX0 cs (h 0) (σ 0)) (wX4 cs h (va_up (va_up σ 1 τ) 0 υ)) (wX1 cs (h 1) τ ++ wX0 cs (h 0) υ) := (cut_r (cut_b cut_h))
set_option maxRecDepth 100000 in
theorem cut_X4_2_0 (cs : Nat → ClassId) (h : Nat → Nat → Nat) (σ : bb_H) (τ υ : bb_O) : bb_cut (wX4 cs h σ) (wX0 cs (h 2) (σ 2) ++ wX0 cs (h 0) (σ 0)) (wX4 cs h (va_up (va_up σ 2 τ) 0 υ)) (wX0 cs (h 2) τ ++ wX0 cs (h 0) υ) := (cut_r (cut_b (cut_r cut_h)))
set_option maxRecDepth 100000 in
theorem cut_X4_0_2 (cs : Nat → ClassId) (h : Nat → Nat → Nat) (σ : bb_H) (τ υ : bb_O) : bb_cut (wX4 cs h σ) (wX0 cs (h 0) (σ 0) ++ wX0 cs (h 2) (σ 2)) (wX4 cs h (va_up (va_up σ 0 τ) 2 υ)) (wX0 cs (h 0) τ ++ wX0 cs (h 2) υ) := (cut_r (cut_a (cut_r cut_h)))
set_option maxRecDepth 100000 in
theorem cut_X4_3_0 (cs : Nat → ClassId) (h : Nat → Nat → Nat) (σ : bb_H) (τ υ : bb_O) : bb_cut (wX4 cs h σ) (wX0 cs (h 3) (σ 3) ++ wX0 cs (h 0) (σ 0)) (wX4 cs h (va_up (va_up σ 3 τ) 0 υ)) (wX0 cs (h 3) τ ++ wX0 cs (h 0) υ) := (cut_r (cut_b (cut_r (cut_r cut_h))))
set_option maxRecDepth 100000 in
theorem cut_X4_0_3 (cs : Nat → ClassId) (h : Nat → Nat → Nat) (σ : bb_H) (τ υ : bb_O) : bb_cut (wX4 cs h σ) (wX0 cs (h 0) (σ 0) ++ wX0 cs (h 3) (σ 3)) (wX4 cs h (va_up (va_up σ 0 τ) 3 υ)) (wX0 cs (h 0) τ ++ wX0 cs (h 3) υ) := (cut_r (cut_a (cut_r (cut_r cut_h))))
set_option maxRecDepth 100000 in
theorem cut_X4_4_1 (cs : Nat → ClassId) (h : Nat → Nat → Nat) (σ : bb_H) (τ υ : bb_O) : bb_cut (wX4 cs h σ) (wX1 cs (h 4) (σ 4) ++ wX1 cs (h 1) (σ 1)) (wX4 cs h (va_up (va_up σ 4 τ) 1 υ)) (wX1 cs (h 4) τ ++ wX1 cs (h 1) υ) := (cut_r (cut_r (cut_b (cut_r (cut_r cut_h)))))
set_option maxRecDepth 100000 in
theorem cut_X4_1_4 (cs : Nat → ClassId) (h : Nat → Nat → Nat) (σ : bb_H) (τ υ : bb_O) : bb_cut (wX4 cs h σ) (wX1 cs (h 1) (σ 1) ++ wX1 cs (h 4) (σ 4)) (wX4 cs h (va_up (va_up σ 1 τ) 4 υ)) (wX1 cs (h 1) τ ++ wX1 cs (h 4) υ) := (cut_r (cut_r (cut_a (cut_r (cut_r cut_h)))))
set_option maxRecDepth 100000 in
theorem cut_X4_6_2 (cs : Nat → ClassId) (h : Nat → Nat → Nat) (σ : bb_H) (τ υ : bb_O) : bb_cut (wX4 cs h σ) (wX3 cs (h 6) (σ 6) ++ wX0 cs (h 2) (σ 2)) (wX4 cs h (va_up (va_up σ 6 τ) 2 υ)) (wX3 cs (h 6) τ ++ wX0 cs (h 2) υ) := (cut_r (cut_r (cut_r (cut_b (cut_r (cut_r cut_h))))))
set_option maxRecDepth 100000 in
theorem cut_X4_7_2 (cs : Nat → ClassId) (h : Nat → Nat → Nat) (σ : bb_H) (τ υ : bb_O) : bb_cut (wX4 cs h σ) (wX2 cs (h 7) (σ 7) ++ wX0 cs (h 2) (σ 2)) (wX4 cs h (va_up (va_up σ 7 τ) 2 υ)) (wX2 cs (h 7) τ ++ wX0 cs (h 2) υ) := (cut_r (cut_r (cut_r (cut_b (cut_r (cut_r (cut_r cut_h)))))))
set_option maxRecDepth 100000 in
theorem cut_X4_8_2 (cs : Nat → ClassId) (h : Nat → Nat → Nat) (σ : bb_H) (τ υ : bb_O) : bb_cut (wX4 cs h σ) (wX2 cs (h 8) (σ 8) ++ wX0 cs (h 2) (σ 2)) (wX4 cs h (va_up (va_up σ 8 τ) 2 υ)) (wX2 cs (h 8) τ ++ wX0 cs (h 2) υ) := (cut_r (cut_r (cut_r (cut_b (cut_r (cut_r (cut_r (cut_r cut_h))))))))
set_option maxRecDepth 100000 in
theorem cut_X4_9_2 (cs : Nat → ClassId) (h : Nat → Nat → Nat) (σ : bb_H) (τ υ : bb_O) : bb_cut (wX4 cs h σ) (wX2 cs (h 9) (σ 9) ++ wX0 cs (h 2) (σ 2)) (wX4 cs h (va_up (va_up σ 9 τ) 2 υ)) (wX2 cs (h 9) τ ++ wX0 cs (h 2) υ) := (cut_r (cut_r (cut_r (cut_b (cut_r (cut_r (cut_r (cut_r (cut_r cut_h)))))))))
set_option maxRecDepth 100000 in
theorem cut_X4_10_2 (cs : Nat → ClassId) (h : Nat → Nat → Nat) (σ : bb_H) (τ υ : bb_O) : bb_cut (wX4 cs h σ) (wX2 cs (h 10) (σ 10) ++ wX0 cs (h 2) (σ 2)) (wX4 cs h (va_up (va_up σ 10 τ) 2 υ)) (wX2 cs (h 10) τ ++ wX0 cs (h 2) υ) := (cut_r (cut_r (cut_r (cut_b (cut_r (cut_r (cut_r (cut_r (cut_r (cut_r (bb_cut_self _ _)))))))))))
set_option maxRecDepth 100000 in
theorem cut_X3X0_0 (cs : Nat → ClassId) (h g : Nat → Nat) (σ τ υ : bb_O) : bb_cut (wX3 cs h σ ++ wX0 cs g τ) (wX3 cs h σ) (wX3 cs h υ ++ wX0 cs g τ) (wX3 cs h υ) := cut_h
set_option maxRecDepth 100000 in
theorem cut_X3X0_1 (cs : Nat → ClassId) (h g : Nat → Nat) (σ τ υ : bb_O) : bb_cut (wX3 cs h σ ++ wX0 cs g τ) (wX0 cs g τ) (wX3 cs h σ ++ wX0 cs g υ) (wX0 cs g υ) := cut_r (bb_cut_self _ _)
set_option maxRecDepth 100000 in
theorem cut_X2X0_0 (cs : Nat → ClassId) (h g : Nat → Nat) (σ τ υ : bb_O) : bb_cut (wX2 cs h σ ++ wX0 cs g τ) (wX2 cs h σ) (wX2 cs h υ ++ wX0 cs g τ) (wX2 cs h υ) := cut_h
set_option maxRecDepth 100000 in
theorem cut_X2X0_1 (cs : Nat → ClassId) (h g : Nat → Nat) (σ τ υ : bb_O) : bb_cut (wX2 cs h σ ++ wX0 cs g τ) (wX0 cs g τ) (wX2 cs h σ ++ wX0 cs g υ) (wX0 cs g υ) := cut_r (bb_cut_self _ _)
