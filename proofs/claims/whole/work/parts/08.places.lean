set_option maxRecDepth 100000 in
theorem bb_inN {i : Int32} {N : Nat} (h : vp_in i N) : i.toNatClampNeg < N := Nat.not_le.mp fun q => h (Or.inr q)
set_option maxRecDepth 100000 in
theorem cutp_X4_0 (cs : Nat → ClassId) (h : Nat → Nat → Nat) (σ : bb_H) : bb_cut (wX4 cs h σ) (wX0 cs (h 0) (σ 0)) (wX4 cs h σ) (wX0 cs (h 0) (σ 0)) := (cut_r cut_h)
set_option maxRecDepth 100000 in
theorem cutp_X4_1 (cs : Nat → ClassId) (h : Nat → Nat → Nat) (σ : bb_H) : bb_cut (wX4 cs h σ) (wX1 cs (h 1) (σ 1)) (wX4 cs h σ) (wX1 cs (h 1) (σ 1)) := (cut_r (cut_r cut_h))
set_option maxRecDepth 100000 in
theorem cutp_X4_2 (cs : Nat → ClassId) (h : Nat → Nat → Nat) (σ : bb_H) : bb_cut (wX4 cs h σ) (wX0 cs (h 2) (σ 2)) (wX4 cs h σ) (wX0 cs (h 2) (σ 2)) := (cut_r (cut_r (cut_r cut_h)))
set_option maxRecDepth 100000 in
theorem cutp_X4_3 (cs : Nat → ClassId) (h : Nat → Nat → Nat) (σ : bb_H) : bb_cut (wX4 cs h σ) (wX0 cs (h 3) (σ 3)) (wX4 cs h σ) (wX0 cs (h 3) (σ 3)) := (cut_r (cut_r (cut_r (cut_r cut_h))))
set_option maxRecDepth 100000 in
theorem cutp_X4_4 (cs : Nat → ClassId) (h : Nat → Nat → Nat) (σ : bb_H) : bb_cut (wX4 cs h σ) (wX1 cs (h 4) (σ 4)) (wX4 cs h σ) (wX1 cs (h 4) (σ 4)) := (cut_r (cut_r (cut_r (cut_r (cut_r cut_h)))))
set_option maxRecDepth 100000 in
theorem cutp_X4_6 (cs : Nat → ClassId) (h : Nat → Nat → Nat) (σ : bb_H) : bb_cut (wX4 cs h σ) (wX3 cs (h 6) (σ 6)) (wX4 cs h σ) (wX3 cs (h 6) (σ 6)) := (cut_r (cut_r (cut_r (cut_r (cut_r (cut_r cut_h))))))
set_option maxRecDepth 100000 in
theorem cutp_X4_7 (cs : Nat → ClassId) (h : Nat → Nat → Nat) (σ : bb_H) : bb_cut (wX4 cs h σ) (wX2 cs (h 7) (σ 7)) (wX4 cs h σ) (wX2 cs (h 7) (σ 7)) := (cut_r (cut_r (cut_r (cut_r (cut_r (cut_r (cut_r cut_h)))))))
set_option maxRecDepth 100000 in
theorem cutp_X4_8 (cs : Nat → ClassId) (h : Nat → Nat → Nat) (σ : bb_H) : bb_cut (wX4 cs h σ) (wX2 cs (h 8) (σ 8)) (wX4 cs h σ) (wX2 cs (h 8) (σ 8)) := (cut_r (cut_r (cut_r (cut_r (cut_r (cut_r (cut_r (cut_r cut_h))))))))
set_option maxRecDepth 100000 in
theorem cutp_X4_9 (cs : Nat → ClassId) (h : Nat → Nat → Nat) (σ : bb_H) : bb_cut (wX4 cs h σ) (wX2 cs (h 9) (σ 9)) (wX4 cs h σ) (wX2 cs (h 9) (σ 9)) := (cut_r (cut_r (cut_r (cut_r (cut_r (cut_r (cut_r (cut_r (cut_r cut_h)))))))))
set_option maxRecDepth 100000 in
theorem cutp_X4_10 (cs : Nat → ClassId) (h : Nat → Nat → Nat) (σ : bb_H) : bb_cut (wX4 cs h σ) (wX2 cs (h 10) (σ 10)) (wX4 cs h σ) (wX2 cs (h 10) (σ 10)) := (cut_r (cut_r (cut_r (cut_r (cut_r (cut_r (cut_r (cut_r (cut_r (cut_r (bb_cut_self _ _)))))))))))
set_option maxRecDepth 100000 in
theorem bb_rowpos (cs : Nat → ClassId) (h : Nat → Nat → Nat) (σ : bb_H) {j : Nat} (hj : j < 4) : (wX4 cs h σ)[42 + 2 * j]? = some (h (7 + j) 0, .inr (2, [.int ((σ (7 + j)).1 0), .int ((σ (7 + j)).1 1), .ref (h (7 + j) 3)])) := by
  match j, hj with
  | 0, _ => exact rfl
  | 1, _ => exact rfl
  | 2, _ => exact rfl
  | 3, _ => exact rfl
set_option maxRecDepth 100000 in
theorem bb_rowarr (cs : Nat → ClassId) (h : Nat → Nat → Nat) (σ : bb_H) {j : Nat} (hj : j < 4) : (wX4 cs h σ)[43 + 2 * j]? = some (h (7 + j) 3, .inl (cs 1, 24, .inr (.inl ((σ (7 + j)).2.2 2)))) := by
  match j, hj with
  | 0, _ => exact rfl
  | 1, _ => exact rfl
  | 2, _ => exact rfl
  | 3, _ => exact rfl
set_option maxRecDepth 100000 in
theorem bb_rowset (cs : Nat → ClassId) (h : Nat → Nat → Nat) (σ : bb_H) {j : Nat} (hj : j < 4) (f : Nat → Int64) : (wX4 cs h σ).set (43 + 2 * j) (h (7 + j) 3, .inl (cs 1, 24, .inr (.inl f))) = wX4 cs h (va_up σ (7 + j) (bb_sB (σ (7 + j)) 2 f)) := by
  match j, hj with
  | 0, _ => exact rfl
  | 1, _ => exact rfl
  | 2, _ => exact rfl
  | 3, _ => exact rfl
set_option maxRecDepth 100000 in
theorem bb_rowcut (cs : Nat → ClassId) (h : Nat → Nat → Nat) (σ : bb_H) {j : Nat} (hj : j < 4) (τ : bb_O) : bb_cut (wX4 cs h σ) (wX2 cs (h (7 + j)) (σ (7 + j))) (wX4 cs h (va_up σ (7 + j) τ)) (wX2 cs (h (7 + j)) τ) := by
  match j, hj with
  | 0, _ => exact cut_X4_7 cs h σ τ
  | 1, _ => exact cut_X4_8 cs h σ τ
  | 2, _ => exact cut_X4_9 cs h σ τ
  | 3, _ => exact cut_X4_10 cs h σ τ
set_option maxRecDepth 100000 in
theorem bb_rowcutp (cs : Nat → ClassId) (h : Nat → Nat → Nat) (σ : bb_H) {j : Nat} (hj : j < 4) : bb_cut (wX4 cs h σ) (wX2 cs (h (7 + j)) (σ (7 + j))) (wX4 cs h σ) (wX2 cs (h (7 + j)) (σ (7 + j))) := by
  match j, hj with
  | 0, _ => exact cutp_X4_7 cs h σ
  | 1, _ => exact cutp_X4_8 cs h σ
  | 2, _ => exact cutp_X4_9 cs h σ
  | 3, _ => exact cutp_X4_10 cs h σ
set_option maxRecDepth 100000 in
theorem bb_rowcut2 (cs : Nat → ClassId) (h : Nat → Nat → Nat) (σ : bb_H) {j : Nat} (hj : j < 4) (τ υ : bb_O) : bb_cut (wX4 cs h σ) (wX2 cs (h (7 + j)) (σ (7 + j)) ++ wX0 cs (h 2) (σ 2)) (wX4 cs h (va_up (va_up σ (7 + j) τ) 2 υ)) (wX2 cs (h (7 + j)) τ ++ wX0 cs (h 2) υ) := by
  match j, hj with
  | 0, _ => exact cut_X4_7_2 cs h σ τ υ
  | 1, _ => exact cut_X4_8_2 cs h σ τ υ
  | 2, _ => exact cut_X4_9_2 cs h σ τ υ
  | 3, _ => exact cut_X4_10_2 cs h σ τ υ
set_option maxRecDepth 100000 in
theorem bb_steppos (cs : Nat → ClassId) (h : Nat → Nat) (σ : bb_O) {j : Nat} (hj : j < 8) : (wX1 cs h σ)[2 + j]? = some (h (10 + j), .inl (cs 0, 12, .inl (σ.2.1 j))) := by
  match j, hj with
  | 0, _ => exact rfl
  | 1, _ => exact rfl
  | 2, _ => exact rfl
  | 3, _ => exact rfl
  | 4, _ => exact rfl
  | 5, _ => exact rfl
  | 6, _ => exact rfl
  | 7, _ => exact rfl
set_option maxRecDepth 100000 in
theorem bb_stepset (cs : Nat → ClassId) (h : Nat → Nat) (σ : bb_O) {j : Nat} (hj : j < 8) (f : Nat → Int32) : (wX1 cs h σ).set (2 + j) (h (10 + j), .inl (cs 0, 12, .inl f)) = wX1 cs h (bb_sA σ j f) := by
  match j, hj with
  | 0, _ => exact rfl
  | 1, _ => exact rfl
  | 2, _ => exact rfl
  | 3, _ => exact rfl
  | 4, _ => exact rfl
  | 5, _ => exact rfl
  | 6, _ => exact rfl
  | 7, _ => exact rfl
set_option maxRecDepth 100000 in
theorem bb_stepposL (cs : Nat → ClassId) (h : Nat → Nat) (σ : bb_O) (w : va_W) {j : Nat} (hj : j < 8) : (wX1 cs h σ ++ w)[2 + j]? = some (h (10 + j), .inl (cs 0, 12, .inl (σ.2.1 j))) := by
  match j, hj with
  | 0, _ => exact rfl
  | 1, _ => exact rfl
  | 2, _ => exact rfl
  | 3, _ => exact rfl
  | 4, _ => exact rfl
  | 5, _ => exact rfl
  | 6, _ => exact rfl
  | 7, _ => exact rfl
set_option maxRecDepth 100000 in
theorem bb_stepsetL (cs : Nat → ClassId) (h : Nat → Nat) (σ : bb_O) (w : va_W) {j : Nat} (hj : j < 8) (f : Nat → Int32) : (wX1 cs h σ ++ w).set (2 + j) (h (10 + j), .inl (cs 0, 12, .inl f)) = wX1 cs h (bb_sA σ j f) ++ w := by
  match j, hj with
  | 0, _ => exact rfl
  | 1, _ => exact rfl
  | 2, _ => exact rfl
  | 3, _ => exact rfl
  | 4, _ => exact rfl
  | 5, _ => exact rfl
  | 6, _ => exact rfl
  | 7, _ => exact rfl
set_option maxRecDepth 100000 in
theorem bb_stepposR (cs : Nat → ClassId) (h : Nat → Nat) (σ : bb_O) (g : Nat → Nat) (τ : bb_O) {j : Nat} (hj : j < 8) : (wX1 cs g τ ++ wX1 cs h σ)[12 + j]? = some (h (10 + j), .inl (cs 0, 12, .inl (σ.2.1 j))) := by
  match j, hj with
  | 0, _ => exact rfl
  | 1, _ => exact rfl
  | 2, _ => exact rfl
  | 3, _ => exact rfl
  | 4, _ => exact rfl
  | 5, _ => exact rfl
  | 6, _ => exact rfl
  | 7, _ => exact rfl
