/-- a row of the class tables -/
theorem bb_lw {w : Cond} (h : w ∈ bb_tb) : w ∈ lw_tbl := (List.mem_filter.mp h).1
theorem bb_arr {s : State} {args : Array Value} {ty : FieldType} (h : (Cond.arrayClass ty).before args s = true) : ∃ cA : ClassId, ArrOfT s cA ty ∧ s.vm.findClass ("[" ++ ty.toString) = some cA := by
  obtain ⟨cA, kA, comp, h1, h2, h3⟩ := Cond.arrayClass_spec h
  exact ⟨cA, fun n z => ⟨fun k h => (by cases h), kA, h2, comp, h3⟩, h1⟩
set_option maxHeartbeats 8000000 in
set_option maxRecDepth 100000 in
theorem whole_start {p : Program} {e : Env} {s : State} {m : MethodId} {below : List Frame} {meth : Method} {c : Code} (l : Launch) {b L : Nat} {xs : Nat → Int32} (hL : L ≤ 384) (C0 : lw_At p s m meth c b L xs) : W p l e room_1 s m #[Value.ref b] below meth c s.heap [] 0 0 (lw_Z below #[Value.ref b] s) (entryFrame m ([Value.ref b] : List Value).toArray 4) := by
  obtain ⟨hx, hb, hr, hml, hown, hts, hX, hbl, hlocks, hgv⟩ := C0
  obtain ⟨k0, i0, hK0⟩ := u_known (C := RX0) (T := TX0) (N := 14) (n := 14) hts (fun w h => bb_lw (bi_X0 w h)) (hts _ (bb_lw bw_in_X0))
  obtain ⟨k1, i1, hK1⟩ := u_known (C := RX1) (T := TX1) (N := 3) (n := 3) hts (fun w h => bb_lw (bi_X1 w h)) (hts _ (bb_lw bw_in_X1))
  obtain ⟨k2, i2, hK2⟩ := u_known (C := RX2) (T := TX2) (N := 3) (n := 3) hts (fun w h => bb_lw (bi_X2 w h)) (hts _ (bb_lw bw_in_X2))
  obtain ⟨k3, i3, hK3⟩ := u_known (C := RX3) (T := TX3) (N := 3) (n := 3) hts (fun w h => bb_lw (bi_X3 w h)) (hts _ (bb_lw bw_in_X3))
  obtain ⟨k4, i4, hK4⟩ := u_known (C := RX4) (T := TX4) (N := 8) (n := 8) hts (fun w h => bb_lw (bi_X4 w h)) (hts _ (bb_lw bw_in_X4))
  obtain ⟨k5, i5, hK5⟩ := u_known (C := RX5) (T := TX5) (N := 18) (n := 18) hts (fun w h => bb_lw (bi_X5 w h)) (hts _ (bb_lw bw_in_X5))
  obtain ⟨dC, dI, hKc⟩ : ∃ (dC : Nat → ClassId) (dI : Nat → Nat → Nat), ∀ (k : Nat) (q : vw_C), bb_CL[k]? = some q → u_Kn s q.1 q.2.1 q.2.2 (dC k) (dI k) := by
    refine ⟨fun k => if k = 0 then k0 else if k = 1 then k1 else if k = 2 then k2 else if k = 3 then k3 else if k = 4 then k4 else k5, fun k => if k = 0 then i0 else if k = 1 then i1 else if k = 2 then i2 else if k = 3 then i3 else if k = 4 then i4 else i5, ?_⟩
    intro k q hq
    match k, hq with
    | 0, hq => cases hq; exact hK0
    | 1, hq => cases hq; exact hK1
    | 2, hq => cases hq; exact hK2
    | 3, hq => cases hq; exact hK3
    | 4, hq => cases hq; exact hK4
    | 5, hq => cases hq; exact hK5
    | k + 6, hq => simp [bb_CL] at hq
  obtain ⟨cI, aI, fI⟩ := bb_arr (hts _ (bb_lw bw_ac_int))
  obtain ⟨cJ, aJ, fJ⟩ := bb_arr (hts _ (bb_lw bw_ac_long))
  obtain ⟨cC, aC, fC⟩ := bb_arr (hts _ (bb_lw bw_ac_char))
  have hoA : (Cond.arrayOver (.array .int)).before #[Value.ref b] s = true := hts _ (List.mem_of_getElem? (i := 130) (by decide +kernel))
  have hoR : (Cond.arrayOver (.object "BlindBuff$Row")).before #[Value.ref b] s = true := hts _ (List.mem_of_getElem? (i := 162) (by decide +kernel))
  obtain ⟨cmp1, cII, kII, g1, -, g3, g4, g5⟩ := arrayOverA_spec hoA
  obtain ⟨cmp2, cR, kR, r1, -, r3, r4, r5⟩ := Cond.arrayOver_spec hoR
  obtain ⟨cs, hcs⟩ : ∃ cs : Nat → ClassId, cs 0 = cI ∧ cs 1 = cJ ∧ cs 2 = cC ∧ cs 3 = cII ∧ cs 4 = cR := ⟨fun k => if k = 0 then cI else if k = 1 then cJ else if k = 2 then cC else if k = 3 then cII else cR, rfl, rfl, rfl, rfl, rfl⟩
  obtain ⟨rfl, rfl, rfl, rfl, rfl⟩ := hcs
  have hK : va_K (dC, dI) bb_CL (bb_ty cs) s := by
    refine ⟨hKc, fun k q hq => ?_⟩
    match k, hq with
    | 0, hq => cases hq; exact ⟨aI, fI⟩
    | 1, hq => cases hq; exact ⟨aJ, fJ⟩
    | 2, hq => cases hq; exact ⟨aC, fC⟩
    | 3, hq => cases hq; exact ⟨fun n z => ⟨fun k h => (by cases h), kII, g3, cmp1, g4⟩, g5⟩
    | 4, hq => cases hq; exact ⟨fun n z => ⟨fun k h => (by cases h), kR, r3, cmp2, r4⟩, kR, cmp2, r3, r4, r1, r5⟩
    | k + 5, hq => simp [bb_ty] at hq
  have hAn : ∀ q : Nat, q < s.heap.size → ¬ (fun q : Nat => s.heap.size ≤ q) q := fun q h => Nat.not_le.mpr h
  have hs := flat_of_before _ hgv
  obtain ⟨adK, adV, hV, hVe⟩ := vk_Sof (args := #[Value.ref b]) (s := s) (N := 1) (tm := fun _ => .string "BlindBuff$Tape" 59) (len := [5]) (byt := [bb_kl]) (A := fun q : Nat => s.heap.size ≤ q) (fun i hi => by match i, hi with | 0, _ => decide) (fun i hi => hs _ (by decide +kernel)) (fun i hi => hs _ (by decide +kernel)) (fun i hi => hs _ (by decide +kernel)) (fun i hi => by match i, hi with | 0, _ => exact hs _ (by decide +kernel)) (fun i hi j hj => by match i, hi, j, hj with | 0, _, 0, _ => exact hs _ (by decide +kernel) | 0, _, 1, _ => exact hs _ (by decide +kernel) | 0, _, 2, _ => exact hs _ (by decide +kernel) | 0, _, 3, _ => exact hs _ (by decide +kernel) | 0, _, 4, _ => exact hs _ (by decide +kernel)) (fun i j hi hj hij => absurd (by omega) hij) hAn
  have hZ : va_Z "java/lang/String" "COMPACT_STRINGS" "Z" (.int 1) (fun q : Nat => s.heap.size ≤ q) s s.heap := va_Zof (args := #[Value.ref b]) (hts _ (List.mem_of_getElem? (i := 350) (by decide +kernel))) (hts (.initialized "java/lang/String") (List.mem_of_getElem? (i := 35) (by decide +kernel))) (va_eqt (hs _ (by decide +kernel))) hAn
  have hV0 := hV.1 0 (by decide)
  have hE : bb_S (adK 0) (adV 0) (fun q : Nat => s.heap.size ≤ q) s s.heap := ⟨hZ, hV0.1, hV0.2.1, hV0.2.2.1, hV0.2.2.2, vk_R.of (A := #[Value.ref b]) (hts (.stringRef "BlindBuff$Tape" 59 "psbhl") (List.mem_of_getElem? (i := 336) (by decide +kernel))) (hVe 0 (by decide))⟩
  have hEi : bb_E s := ⟨va_Nw.of rfl (hts (.methodLinkNest "BlindBuff" 9 yX0_init "BlindBuff") (List.mem_of_getElem? (i := 50) (by decide +kernel))), va_Nw.of rfl (hts (.methodLinkNest "BlindBuff" 18 yX1_init "BlindBuff") (List.mem_of_getElem? (i := 125) (by decide +kernel))), va_Nw.of rfl (hts (.methodLinkNest "BlindBuff" 34 yX3_init "BlindBuff") (List.mem_of_getElem? (i := 144) (by decide +kernel))), va_Nw.of rfl (hts (.methodLinkNest "BlindBuff" 45 yX2_init "BlindBuff") (List.mem_of_getElem? (i := 164) (by decide +kernel))), va_AO.of hoR, va_AOA.of hoA⟩
  have hl := lv_entry ([.ref b]) (n := 4) (Nat.le_of_ble_eq_true rfl)
  rw [lg_entry_eq]
  generalize (lg_sl ([.ref b]) ++ List.replicate (4 - (lg_sl ([.ref b])).length) Slot.unset).toArray = ls at hl ⊢
  have hl : lv_has ls 4 [(0, .ref b)] := hl
  obtain ⟨X, hXe⟩ : ∃ X : bb_X, X = (p, l, e, room_1, s, m, #[Value.ref b], below, meth, c, (fun q : Nat => s.heap.size ≤ q), (dC, dI), cs, lw_Z below #[Value.ref b] s, 0, 0) := ⟨_, rfl⟩
  have C : bb_C (X.kn 0 0) RL cL_law 4 := by
    rw [hXe]
    exact ⟨hx, hb, hml, hown, fun w h => hts w (bb_lw h), hK, hlocks, fun _ h => h, Nat.zero_le _, Nat.zero_le _⟩
  have hR : bb_r X 8 := by rw [hXe]; exact ⟨show 8 ≤ room_1.frames by decide, show 40 * 8 ≤ room_1.locals by decide⟩
  have hXs : X.s = s := by rw [hXe]
  have hEs : bb_E X.s := by rw [hXs]; exact hEi
  have hSS : bb_S (adK 0) (adV 0) X.A X.s X.s.heap := by rw [hXe]; exact hE
  have hscr : ∀ k n, bb_scr (X.kn k n) b L xs := fun k n => by rw [hXe]; exact ⟨hX, hbl, hAn b hbl⟩
  have hLb : ∀ k n, k ≤ 600000 → n ≤ 7302249 → bb_L (X.kn k n) := fun k n h1 h2 => by rw [hXe]; exact ⟨b, rfl, rfl, rfl, h1, h2, hr, rfl⟩
  have hXR : X.R = room_1 := by rw [hXe]
  obtain ⟨s1, hq, hmain⟩ := bb_main
  have hZw : bb_Z (X.kn 0 0) 4 [] 0 [(0, .ref b)] [] := by
    refine z_new (pc := 0) (ci := 4) (fs := [.null, .null, .null, .null, .null, .int 0, .null, .null]) C bi_X4 tyX4 tyX4_ok bw_cl_L_7 bw_in_X4 bw_it_X4 rfl (fun j hj => by match j, hj with | 0, _ => exact rfl | 1, _ => exact rfl | 2, _ => exact rfl | 3, _ => exact rfl | 4, _ => exact rfl | 5, _ => exact rfl | 6, _ => exact rfl | 7, _ => exact rfl | n + 8, h => exact absurd h (by omega)) (show 0 + 1 ≤ X.R.cells by rw [hXR]; decide) (show 0 + 8 ≤ X.R.slots by rw [hXR]; decide) dL_law_0 (fun q1 => ?_)
    have C1 : bb_C (X.kn 1 8) RL cL_law 4 := C.kn (show 1 ≤ X.R.cells by rw [hXR]; decide) (show 8 ≤ X.R.slots by rw [hXR]; decide)
    show bb_Z (X.kn 1 8) 4 ([] ++ [(q1, .inr (4, [.null, .null, .null, .null, .null, .int 0, .null, .null]))]) 3 [(0, .ref b)] [.ref q1]
    refine z_dup (pc := 3) C1 dL_law_3 rfl ?_
    refine z_callI (pc := 4) C1 hEs (hR.le (by decide)) (i_X4 q1) bw_ci_X4 bm_L_9 (Nat.le_of_ble_eq_true rfl) (show 1 + 49 ≤ X.R.cells by rw [hXR]; decide) (show 8 + 551 ≤ X.R.slots by rw [hXR]; decide) dL_law_4 (fun wc hwc => ?_)
    obtain ⟨h, rfl, hp⟩ := hwc
    have C2 : bb_C (X.kn 50 559) RL cL_law 4 := C.kn (show 50 ≤ X.R.cells by rw [hXR]; decide) (show 559 ≤ X.R.slots by rw [hXR]; decide)
    show bb_Z (X.kn 50 559) 4 wc 7 [(0, .ref b)] [.ref (h 5 0)]
    refine bb_Z.perm hp ?_
    refine z_astore_n (pc := 7) (i := 1) (lv' := [(1, .ref (h 5 0)), (0, .ref b)]) C2 dL_law_7 rfl (by decide) rfl ?_
    refine z_new (pc := 8) (ci := 5) (fs := [.null, .int 0, .int 0, .null, .int 0, .int 0, .int 0, .null, .null, .int 0, .null, .null, .int 0, .int 0, .null, .null, .null, .null]) C2 bi_X5 tyX5 tyX5_ok bw_cl_L_10 bw_in_X5 bw_it_X5 rfl (fun j hj => by match j, hj with | 0, _ => exact rfl | 1, _ => exact rfl | 2, _ => exact rfl | 3, _ => exact rfl | 4, _ => exact rfl | 5, _ => exact rfl | 6, _ => exact rfl | 7, _ => exact rfl | 8, _ => exact rfl | 9, _ => exact rfl | 10, _ => exact rfl | 11, _ => exact rfl | 12, _ => exact rfl | 13, _ => exact rfl | 14, _ => exact rfl | 15, _ => exact rfl | 16, _ => exact rfl | 17, _ => exact rfl | n + 18, h => exact absurd h (by omega)) (show 50 + 1 ≤ X.R.cells by rw [hXR]; decide) (show 559 + 18 ≤ X.R.slots by rw [hXR]; decide) dL_law_8 (fun q2 => ?_)
    have C3 : bb_C (X.kn 51 577) RL cL_law 4 := C.kn (show 51 ≤ X.R.cells by rw [hXR]; decide) (show 577 ≤ X.R.slots by rw [hXR]; decide)
    show bb_Z (X.kn 51 577) 4 (wX4 X.cs h bb_h0 ++ [(q2, .inr (5, [.null, .int 0, .int 0, .null, .int 0, .int 0, .int 0, .null, .null, .int 0, .null, .null, .int 0, .int 0, .null, .null, .null, .null]))]) 11 [(1, .ref (h 5 0)), (0, .ref b)] [.ref q2]
    refine z_dup (pc := 11) C3 dL_law_11 rfl ?_
    refine z_callI (pc := 12) C3 hEs (hR.le (by decide)) (i_X5 q2 hq rfl rfl rfl rfl rfl) bw_ci_X5 bm_L_12 (Nat.le_of_ble_eq_true rfl) (show 51 + 10 ≤ X.R.cells by rw [hXR]; decide) (show 577 + 551 ≤ X.R.slots by rw [hXR]; decide) dL_law_12 (fun wc hwc => ?_)
    obtain ⟨g, rfl, rfl⟩ := hwc
    have C4 : bb_C (X.kn 61 1128) RL cL_law 4 := C.kn (show 61 ≤ X.R.cells by rw [hXR]; decide) (show 1128 ≤ X.R.slots by rw [hXR]; decide)
    show bb_Z (X.kn 61 1128) 4 (wX4 X.cs h bb_h0 ++ wX5 X.cs g (bb_m0 s1)) 15 [(1, .ref (h 5 0)), (0, .ref b)] [.ref (g 0)]
    refine z_astore_n (pc := 15) (i := 2) (lv' := [(2, .ref (g 0)), (1, .ref (h 5 0)), (0, .ref b)]) C4 dL_law_15 rfl (by decide) rfl ?_
    refine z_iconst (pc := 16) C4 (0 : Int32) dL_law_16 (by decide) ?_
    refine z_istore_n (pc := 17) (i := 3) (lv' := [(3, .int 0), (2, .ref (g 0)), (1, .ref (h 5 0)), (0, .ref b)]) C4 dL_law_17 rfl (by decide) rfl ?_
    refine z_lv [3, 2, 1, 0] rfl ?_
    exact B_L_law_18 C4 hR (show X.meth.sig.returnType = _ by rw [hXe]; exact hr) h g (adK 0) (adV 0) hSS (hscr 61 1128) (z := 1) ⟨hLb 61 1128 (by decide) (by decide), rfl⟩ bb_N _ _ _ (hmain L xs hL)
  rw [hXe] at hZw
  exact hZw s.heap [] ls (fun k q h => by simp at h) ⟨fun i j p q h => by simp at h, fun k q h => by simp at h⟩ va_S.rf hl
-- ===== YOUR PART ENDS =====
set_option maxHeartbeats 4000000 in
theorem lw_walk (l : Launch) (b : Addr) (xs : List Int32) : MetFree l x (headSpec (Jvm.Cond.code x code maxLocals ret :: tables_1) room_1) (lw_P b xs) (fun _ _ _ _ _ => True) lw_Q := by
  refine MetFree.of_bodyS (code := code) (maxLocals := maxLocals) (ret := ret) (by decide) ?_ ?_
  · intro args s m h hn
    obtain ⟨meth, c, h1, h2, h3, h4, h5, h6, -, -⟩ := Cond.code_spec hn (atoms_spec (ws := Jvm.Cond.code x code maxLocals ret :: tables_1) h _ List.mem_cons_self)
    exact ⟨meth, c, h1, h2, h3, h4, h5, h6⟩
  · intro p e s m args below meth c s₁ B hml0 hP _
    obtain ⟨rfl, hx, hbd, hgv⟩ := hP
    obtain ⟨scr, harrAt, hlist, hof, hsmall⟩ := hx
    obtain ⟨hcb, hkn, -, -⟩ := State.arrayAt?_spec harrAt
    have hown : s.vm.findClass R_law = some m.cls := findClass_of_methodNamed B.named
    have hts0 : ∀ c ∈ (Jvm.Cond.code x code maxLocals ret :: tables_1), c.before #[Value.ref b] s = true := atoms_spec (ws := Jvm.Cond.code x code maxLocals ret :: tables_1) B.pre
    have hts : ∀ w ∈ lw_tbl, w.before #[Value.ref b] s = true := k2_hts_sels lw_privs (fun w hw => hts0 w (List.mem_cons_of_mem _ hw)) lw_privs_ok
    have hml : c.maxLocals = 4 := B.maxLocals_eq (hts0 _ List.mem_cons_self)
    have X₀ : Stand p l e room_1 s m #[Value.ref b] below meth c s₁ [] 0 0 := Stand.of_body B
    have hh0 : s₁.heap = s.heap := by rw [B.state]; rfl
    have hsz : scr.slots.size = xs.length := by rw [← Array.length_toList, hlist, List.length_map]
    have hval : ∀ j : Nat, j < xs.length → scr.slots[j]? = some (.int (xs.getD j 0)) := fun j hj => by
      rw [← Array.getElem?_toList, hlist]
      simp [hj]
    have hbl : b < s.heap.size := (Array.getElem?_eq_some_iff.mp hcb).1
    have hX : va_X b xs.length (fun j => xs.getD j 0) s s.heap := ⟨scr, hcb, hof, hkn, hsz, hval⟩
    have K : W p l e room_1 s m #[Value.ref b] below meth c s₁.heap [] 0 0 (lw_Z below #[Value.ref b] s) (entryFrame m ([Value.ref b] : List Value).toArray 4) := by
      rw [hh0]
      exact whole_start l hbd ⟨B.exec, B.bytes, B.returns, hml, hown, hts, hX, hbl, B.notSynchronized, hgv⟩
    obtain ⟨t, a1, o, b1, b2, b3⟩ := K s₁ rfl X₀
    exact ⟨t, o, a1, b1, b2, b3⟩
theorem lw_pre_spec {args : Array Value} {s : State} (h : (Jvm.Cond.and given_1 narrow_1).before args s = true) (hr : rest_1_c.before args s = true) : ∃ (b : Addr) (xs : List Int32), lw_P b xs args s := by
  have hs := flat_of_before _ h
  have hq := flat_of_before _ hr
  have hc : (Cond.count 1).before args s = true := hs _ (by decide +kernel)
  have harr : (Cond.arrayOf (.arg 0) .int).before args s = true := hs _ (by decide +kernel)
  have hle : (Cond.le (.length (.arg 0)) (.int 384)).before args s = true := hs _ (by decide +kernel)
  have hlen : (Cond.isInt (.length (.arg 0))).before args s = true := hq _ (by decide +kernel)
  have hall : (Cond.all (.arg 0) (.isInt (.elem (.arg 0) (.index 0)))).before args s = true := hq _ (by decide +kernel)
  obtain ⟨b, xs, hb, hx⟩ := State.ints_of_pre rfl harr hlen hall
  have hsm : xs.length < 2 ^ 31 := hx.choose_spec.2.2.2
  have hev : (Term.length (.arg 0)).eval args s none [] s = some (.int xs.length.toInt32) := hx.length_eval hb
  have hv := Cond.le_ints hev (show (Term.int 384).eval args s none [] s = some (.int 384) from rfl)
  have hd : xs.length.toInt32 ≤ 384 := by
    simpa [Cond.before, Cond.holds, hv] using hle
  have hN : xs.length ≤ 384 := (Int32.ofNat_le_ofNat hsm (by decide)).mp (show Int32.ofNat xs.length ≤ Int32.ofNat 384 from hd)
  exact ⟨b, xs, Cond.one_arg hc (show args[0]? = some (.ref b) from hb), hx, hN, h⟩
theorem lw_comes (l : Launch) : Comes l x (Jvm.Cond.code x code maxLocals ret :: tables_1) room_1 (fun tb e args s => Calls_1 tb e args s ∧ rest_1 tb e args s ∧ Pre_1 tb e args s)
    (fun _ _ args s o t => lw_Q args s o t) := by
  intro p e ha hc hk s m args below hf hfit hheap happ hpre
  obtain ⟨b, xs, hP⟩ := lw_pre_spec hpre.2.2 hpre.2.1
  obtain ⟨k, o, h1, h2, h3, hQ⟩ := lw_walk l b xs p e ha hc hk s m args below hf ((Spec.applies_iff_loose hf).mp happ).1 hP trivial
  exact ⟨k, o, h1, h2, h3, hQ⟩
theorem lw_frame {s t : State} {o : Outcome} {args : Array Value} (h : Framed s o t [] 600000 7302249) :
    Framed s o t (fieldLocs frame_1_writes args s ++ arrayLocs frame_1_arrays args s ++ staticLocs frame_1_statics s) 600000 7302249 := h
theorem lw_limb (L : Cond) (hL : ∀ (args : Array Value) (s t : State), L.after args s (.returned (some (.int 1))) t = true) :
    ArmFor flags0 classFile x code maxLocals ret World_1 tables_1 room_1 Calls_1 rest_1 Pre_1
      (fun tb e a s o t => postC L tb e a s o t ∧ Framed s o t (fieldLocs frame_1_writes a s ++ arrayLocs frame_1_arrays a s ++ staticLocs frame_1_statics s) 600000 7302249) := by
  intro l _ _ _ p e ha hc hk s m args below hf hfit hheap happ hpre
  obtain ⟨k, o, h1, h2, h3, rfl, hF⟩ := lw_comes l p e ha hc hk s m args below hf hfit hheap happ hpre
  exact ⟨k, _, h1, h2, h3, hL args s _, lw_frame hF⟩
theorem i_vc : Claimed_1_1 ∧ Claimed_1_2 := ⟨lw_limb limb_1_1 (fun args s t => by simp [limb_1_1, Cond.after, Cond.holds, Cond.value]), lw_limb limb_1_2 (fun args s t => Cond.after_iff.mpr (by
  first | (rw [show limb_1_2 = Cond.eq .result (.int 1) from rfl, Cond.eq_ints (x := 1) (y := 1) rfl rfl]; simp; done) | (simp [limb_1_2, Cond.value, Term.eval]; done)))⟩
