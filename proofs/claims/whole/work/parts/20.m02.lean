def fX3_init (fu : Nat) (S : hS) (a0 : Nat) (x1 : Option Nat) (x2 : Option Nat) : Option (Unit × hS) := bn2 (fX8_init fu S a0 x1 x2) fun _ S2 => some ((), S2)
set_option maxHeartbeats 4000000 in
set_option maxRecDepth 100000 in
theorem mX3_init (l : Launch) (D : hD) (fu : Nat) (S : hS) (a0 : Nat) (x1 : Option Nat) (x2 : Option Nat) (z : Unit × hS) (h : fX3_init fu S a0 x1 x2 = some z) : hM l D yX3_init cX3_init 3 none 2 34 0 0 [va_rf (some a0), va_rf x1, va_rf x2] S none z.2 := by
  refine h_body [.inr (some a0), .inr x1, .inr x2] RX3 (by decide) rfl (Nat.le_of_ble_eq_true rfl) ?_
  intro p e s m args below meth c C hin ls hV hl
  obtain ⟨-, hx, hb, hml, hown, hr, hlk, hK, hts⟩ := id C
  unfold fX3_init at h
  refine hr_aload_n hx hb dX3_init_0 rfl (hr_at hl 0 rfl) ?_
  refine hr_aload_n hx hb dX3_init_1 rfl (hr_at hl 1 rfl) ?_
  refine hr_aload_n hx hb dX3_init_2 rfl (hr_at hl 2 rfl) ?_
  obtain ⟨r1, S2, g3, h4⟩ := hbn2 h; clear h
  refine h_callI (b := a0) (n := 2) (As := [va_rf x1, va_rf x2]) (rest := []) (st1 := []) (fr := 1) (lo := 12) (mc := 0) (ms := 0) C.1 hK hV wd333 wd331 wd332 wd86 rfl ⟨by decide, by decide, by decide⟩ ⟨(Nat.le_of_ble_eq_true rfl), (Nat.le_of_ble_eq_true rfl)⟩ rfl hl.1 (hW_ok [] (Nat.le_of_ble_eq_true rfl)) dX3_init_3 ⟨(Nat.le_of_ble_eq_true rfl), (Nat.le_of_ble_eq_true rfl)⟩ rfl rfl (mX8_init l D fu S a0 x1 x2 _ g3) (fun H locs hV => ?_)
  exact h_vret hx hb hr hlk hV h4 (Nat.le_of_ble_eq_true rfl) (Nat.le_of_ble_eq_true rfl) dX3_init_6
def fX3_sinkFrom_33 (fu : Nat) (S : hS) (t0 : Option Nat) (t1 : Int32) : Option (Unit × hS) := (zz t1).bind fun _ => (pV S 3 8 t0 (.int t1)).bind fun S1 => some ((), S1)
set_option maxHeartbeats 4000000 in
set_option maxRecDepth 100000 in
theorem kX3_sinkFrom_33 {p : Program} {l : Launch} {e : Env} {s : State} {m : MethodId} {args : Array Value} {below : List Frame} {meth : Method} {c : Code} {D : hD} {S0 : hS} {z : Unit × hS} (C : hCx p m c cX3_sinkFrom 2 s args RX3 meth none D) (fu : Nat) : ∀ (S : hS) (t0 : Option Nat) (t1 : Int32) (H : Heap) (locs : List Loc) (ls : Array Slot), fX3_sinkFrom_33 fu S t0 t1 = some z → h_V D (h_A S0) s S H locs → hl_has ls 2 [] → W p l e { frames := 0, cells := 0, slots := 0, locals := 0 } s m args below meth c H locs 0 0 (MQ below (h_Q D (h_A S0) none z.2) args s 0 0 (h_A S0)) (F0 m 33 ls [.int t1, va_rf t0]) := by
  obtain ⟨-, hx, hb, hml, hown, hr, hlk, hK, hts⟩ := id C
  intro S t0 t1 _ _ _ h hV hl
  unfold fX3_sinkFrom_33 at h
  obtain ⟨v2, g3, h4⟩ := hbind h; clear h
  obtain ⟨S1, g5, h6⟩ := hbind h4; clear h4
  refine h_put hx hb hown hV g5 (fpRX3_23 hts hK) (zz_nar (zz_inv g3).2) (zz_fit (zz_inv g3).2) dX3_sinkFrom_33 (fun H locs hV => ?_)
  exact h_vret hx hb hr hlk hV h6 (Nat.le_of_ble_eq_true rfl) (Nat.le_of_ble_eq_true rfl) dX3_sinkFrom_36
def fX3_sinkFrom (fu : Nat) (S : hS) (a0 : Nat) (x1 : Int32) : Option (Unit × hS) := (pV S 3 6 (some a0) (.int x1)).bind fun S1 => (pV S1 3 7 (some a0) (.int (((2 : Int32) * x1) + (1 : Int32)))).bind fun S4 => (gI S4 3 7 (some a0)).bind fun v7 => (gI S4 3 5 (some a0)).bind fun v10 => if v10 ≤ (v7 + (1 : Int32)) then (fX3_sinkFrom_33 fu S4 (some a0) (0 : Int32)) else (fX3_sinkFrom_33 fu S4 (some a0) (1 : Int32))
set_option maxHeartbeats 4000000 in
set_option maxRecDepth 100000 in
theorem mX3_sinkFrom (l : Launch) (D : hD) (fu : Nat) (S : hS) (a0 : Nat) (x1 : Int32) (z : Unit × hS) (h : fX3_sinkFrom fu S a0 x1 = some z) : hM l D yX3_sinkFrom cX3_sinkFrom 2 none 0 0 0 0 [va_rf (some a0), .int x1] S none z.2 := by
  refine h_body [.inr (some a0), .inl x1] RX3 (by decide) rfl (Nat.le_of_ble_eq_true rfl) ?_
  intro p e s m args below meth c C hin ls hV hl
  obtain ⟨-, hx, hb, hml, hown, hr, hlk, hK, hts⟩ := id C
  unfold fX3_sinkFrom at h
  refine hr_aload_n hx hb dX3_sinkFrom_0 rfl (hr_at hl 0 rfl) ?_
  refine lv_iload_n hx hb dX3_sinkFrom_1 rfl (hi_at hl 1 rfl) ?_
  obtain ⟨S1, g2, h3⟩ := hbind h; clear h
  refine h_put hx hb hown hV g2 (fpRX3_34 hts hK) rfl rfl dX3_sinkFrom_2 (fun H locs hV => ?_)
  refine hr_aload_n hx hb dX3_sinkFrom_5 rfl (hr_at hl 0 rfl) ?_
  refine lv_iconst (v := 2) hx hb dX3_sinkFrom_6 (by decide) ?_
  refine lv_iload_n hx hb dX3_sinkFrom_7 rfl (hi_at hl 1 rfl) ?_
  refine lv_imul hx hb dX3_sinkFrom_8 ?_
  refine lv_iconst (v := 1) hx hb dX3_sinkFrom_9 (by decide) ?_
  refine lv_iadd hx hb dX3_sinkFrom_10 ?_
  obtain ⟨S4, g5, h6⟩ := hbind h3; clear h3
  refine h_put hx hb hown hV g5 (fpRX3_27 hts hK) rfl rfl dX3_sinkFrom_11 (fun H locs hV => ?_)
  refine hr_aload_n hx hb dX3_sinkFrom_14 rfl (hr_at hl 0 rfl) ?_
  refine hr_aload_n hx hb dX3_sinkFrom_15 rfl (hr_at hl 0 rfl) ?_
  obtain ⟨v7, g8, h9⟩ := hbind h6; clear h6
  refine h_gI hx hb hown hV g8 (flRX3_27 hts hK) dX3_sinkFrom_16 ?_
  refine lv_iconst (v := 1) hx hb dX3_sinkFrom_19 (by decide) ?_
  refine lv_iadd hx hb dX3_sinkFrom_20 ?_
  refine hr_aload_n hx hb dX3_sinkFrom_21 rfl (hr_at hl 0 rfl) ?_
  obtain ⟨v10, g11, h12⟩ := hbind h9; clear h9
  refine h_gI hx hb hown hV g11 (flRX3_16 hts hK) dX3_sinkFrom_22 ?_
  refine lv_icmp_ge (tgt := 32) hx hb dX3_sinkFrom_25 (by decide) (fun c13 => ?_) (fun c13 => ?_)
  · rw [if_pos c13] at h12
    refine lv_iconst (v := 0) hx hb dX3_sinkFrom_32 (by decide) ?_
    exact kX3_sinkFrom_33 C fu S4 (some a0) (0 : Int32) _ _ _ h12 hV (hl_sub hl [] rfl)
  · rw [if_neg c13] at h12
    refine lv_iconst (v := 1) hx hb dX3_sinkFrom_28 (by decide) ?_
    refine lv_goto (tgt := 33) hx hb dX3_sinkFrom_29 (by decide) ?_
    exact kX3_sinkFrom_33 C fu S4 (some a0) (1 : Int32) _ _ _ h12 hV (hl_sub hl [] rfl)
def fX3_begin (fu : Nat) (S : hS) (a0 : Nat) : Option (Unit × hS) := (gI S 3 2 (some a0)).bind fun v1 => (pV S 3 4 (some a0) (.int ((v1 / (2 : Int32)) - (1 : Int32)))).bind fun S4 => (gI S4 3 2 (some a0)).bind fun v7 => (pV S4 3 5 (some a0) (.int v7)).bind fun S10 => (gI S10 3 4 (some a0)).bind fun v13 => (rcv S10 3 (some a0)).bind fun b18 => bn2 (fX3_sinkFrom fu S10 b18 v13) fun _ S17 => some ((), S17)
set_option maxHeartbeats 4000000 in
set_option maxRecDepth 100000 in
theorem mX3_begin (l : Launch) (D : hD) (fu : Nat) (S : hS) (a0 : Nat) (z : Unit × hS) (h : fX3_begin fu S a0 = some z) : hM l D yX3_begin cX3_begin 1 none 1 21 0 0 [va_rf (some a0)] S none z.2 := by
  refine h_body [.inr (some a0)] RX3 (by decide) rfl (Nat.le_of_ble_eq_true rfl) ?_
  intro p e s m args below meth c C hin ls hV hl
  obtain ⟨-, hx, hb, hml, hown, hr, hlk, hK, hts⟩ := id C
  unfold fX3_begin at h
  refine hr_aload_n hx hb dX3_begin_0 rfl (hr_at hl 0 rfl) ?_
  refine hr_aload_n hx hb dX3_begin_1 rfl (hr_at hl 0 rfl) ?_
  obtain ⟨v1, g2, h3⟩ := hbind h; clear h
  refine h_gI hx hb hown hV g2 (flRX3_7 hts hK) dX3_begin_2 ?_
  refine lv_iconst (v := 2) hx hb dX3_begin_5 (by decide) ?_
  refine lv_idiv hx hb dX3_begin_6 (by decide) ?_
  refine lv_iconst (v := 1) hx hb dX3_begin_7 (by decide) ?_
  refine lv_isub hx hb dX3_begin_8 ?_
  obtain ⟨S4, g5, h6⟩ := hbind h3; clear h3
  refine h_put hx hb hown hV g5 (fpRX3_13 hts hK) rfl rfl dX3_begin_9 (fun H locs hV => ?_)
  refine hr_aload_n hx hb dX3_begin_12 rfl (hr_at hl 0 rfl) ?_
  refine hr_aload_n hx hb dX3_begin_13 rfl (hr_at hl 0 rfl) ?_
  obtain ⟨v7, g8, h9⟩ := hbind h6; clear h6
  refine h_gI hx hb hown hV g8 (flRX3_7 hts hK) dX3_begin_14 ?_
  obtain ⟨S10, g11, h12⟩ := hbind h9; clear h9
  refine h_put hx hb hown hV g11 (fpRX3_16 hts hK) rfl rfl dX3_begin_17 (fun H locs hV => ?_)
  refine hr_aload_n hx hb dX3_begin_20 rfl (hr_at hl 0 rfl) ?_
  refine hr_aload_n hx hb dX3_begin_21 rfl (hr_at hl 0 rfl) ?_
  obtain ⟨v13, g14, h15⟩ := hbind h12; clear h12
  refine h_gI hx hb hown hV g14 (flRX3_13 hts hK) dX3_begin_22 ?_
  obtain ⟨b18, g19, h20⟩ := hbind h15; clear h15
  obtain ⟨_, _, e21, q21⟩ := rcv_inv g19
  obtain ⟨r16, S17, g22, h23⟩ := hbn2 h20; clear h20
  refine h_callV (n := 1) (As := [.int v13]) (rest := []) (st1 := []) (fr := 0) (lo := 0) (mc := 0) (ms := 0) C.1 hK hV q21 rfl rfl wd485 wd482 wd484 wd15 wd87 ⟨by decide, by decide, by decide⟩ ⟨(Nat.le_of_ble_eq_true rfl), (Nat.le_of_ble_eq_true rfl)⟩ rfl hl.1 (hW_ok [] (Nat.le_of_ble_eq_true rfl)) dX3_begin_25 ⟨(Nat.le_of_ble_eq_true rfl), (Nat.le_of_ble_eq_true rfl)⟩ rfl (by rw [e21]; rfl) (mX3_sinkFrom l D fu S10 b18 v13 _ g22) (fun H locs hV => ?_)
  exact h_vret hx hb hr hlk hV h23 (Nat.le_of_ble_eq_true rfl) (Nat.le_of_ble_eq_true rfl) dX3_begin_28
def fX3_goOnWithNextSink_64 (fu : Nat) (S : hS) (t0 : Option Nat) (t1 : Int32) : Option (Unit × hS) := (zz t1).bind fun _ => (pV S 3 3 t0 (.int t1)).bind fun S1 => some ((), S1)
set_option maxHeartbeats 4000000 in
set_option maxRecDepth 100000 in
theorem kX3_goOnWithNextSink_64 {p : Program} {l : Launch} {e : Env} {s : State} {m : MethodId} {args : Array Value} {below : List Frame} {meth : Method} {c : Code} {D : hD} {S0 : hS} {z : Unit × hS} (C : hCx p m c cX3_goOnWithNextSink 1 s args RX3 meth none D) (fu : Nat) : ∀ (S : hS) (t0 : Option Nat) (t1 : Int32) (H : Heap) (locs : List Loc) (ls : Array Slot), fX3_goOnWithNextSink_64 fu S t0 t1 = some z → h_V D (h_A S0) s S H locs → hl_has ls 1 [] → W p l e { frames := 2, cells := 0, slots := 0, locals := 45 } s m args below meth c H locs 0 0 (MQ below (h_Q D (h_A S0) none z.2) args s 0 0 (h_A S0)) (F0 m 64 ls [.int t1, va_rf t0]) := by
  obtain ⟨-, hx, hb, hml, hown, hr, hlk, hK, hts⟩ := id C
  intro S t0 t1 _ _ _ h hV hl
  unfold fX3_goOnWithNextSink_64 at h
  obtain ⟨v2, g3, h4⟩ := hbind h; clear h
  obtain ⟨S1, g5, h6⟩ := hbind h4; clear h4
  refine h_put hx hb hown hV g5 (fpRX3_45 hts hK) (zz_nar (zz_inv g3).2) (zz_fit (zz_inv g3).2) dX3_goOnWithNextSink_64 (fun H locs hV => ?_)
  exact h_vret hx hb hr hlk hV h6 (Nat.le_of_ble_eq_true rfl) (Nat.le_of_ble_eq_true rfl) dX3_goOnWithNextSink_67
def fX3_goOnWithNextSink (fu : Nat) (S : hS) (a0 : Nat) : Option (Unit × hS) := (gI S 3 4 (some a0)).bind fun v1 => if v1 ≤ 0 then ((gI S 3 5 (some a0)).bind fun v5 =>
(pV S 3 5 (some a0) (.int (v5 - (1 : Int32)))).bind fun S8 =>
(gI S8 3 5 (some a0)).bind fun v11 =>
(rcv S8 3 (some a0)).bind fun b16 =>
bn2 (fX8_swap fu S8 b16 (0 : Int32) v11) fun _ S15 =>
(rcv S15 3 (some a0)).bind fun b24 =>
bn2 (fX3_sinkFrom fu S15 b24 (0 : Int32)) fun _ S23 =>
(gI S23 3 5 (some a0)).bind fun v30 =>
if (1 : Int32) < v30 then (fX3_goOnWithNextSink_64 fu S23 (some a0) (0 : Int32)) else (fX3_goOnWithNextSink_64 fu S23 (some a0) (1 : Int32))) else ((gI S 3 4 (some a0)).bind fun v34 =>
(pV S 3 4 (some a0) (.int (v34 - (1 : Int32)))).bind fun S37 =>
(gI S37 3 4 (some a0)).bind fun v40 =>
(rcv S37 3 (some a0)).bind fun b45 =>
bn2 (fX3_sinkFrom fu S37 b45 v40) fun _ S44 =>
some ((), S44))
set_option maxHeartbeats 4000000 in
set_option maxRecDepth 100000 in
theorem mX3_goOnWithNextSink (l : Launch) (D : hD) (fu : Nat) (S : hS) (a0 : Nat) (z : Unit × hS) (h : fX3_goOnWithNextSink fu S a0 = some z) : hM l D yX3_goOnWithNextSink cX3_goOnWithNextSink 1 none 2 45 0 0 [va_rf (some a0)] S none z.2 := by
  refine h_body [.inr (some a0)] RX3 (by decide) rfl (Nat.le_of_ble_eq_true rfl) ?_
  intro p e s m args below meth c C hin ls hV hl
  obtain ⟨-, hx, hb, hml, hown, hr, hlk, hK, hts⟩ := id C
  unfold fX3_goOnWithNextSink at h
  refine hr_aload_n hx hb dX3_goOnWithNextSink_0 rfl (hr_at hl 0 rfl) ?_
  obtain ⟨v1, g2, h3⟩ := hbind h; clear h
  refine h_gI hx hb hown hV g2 (flRX3_13 hts hK) dX3_goOnWithNextSink_1 ?_
  refine lv_if_le (tgt := 26) hx hb dX3_goOnWithNextSink_4 (by decide) (fun c4 => ?_) (fun c4 => ?_)
  · rw [if_pos c4] at h3
    refine hr_aload_n hx hb dX3_goOnWithNextSink_26 rfl (hr_at hl 0 rfl) ?_
    refine hr_dup hx hb dX3_goOnWithNextSink_27 ?_
    obtain ⟨v5, g6, h7⟩ := hbind h3; clear h3
    refine h_gI hx hb hown hV g6 (flRX3_16 hts hK) dX3_goOnWithNextSink_28 ?_
    refine lv_iconst (v := 1) hx hb dX3_goOnWithNextSink_31 (by decide) ?_
    refine lv_isub hx hb dX3_goOnWithNextSink_32 ?_
    obtain ⟨S8, g9, h10⟩ := hbind h7; clear h7
    refine h_put hx hb hown hV g9 (fpRX3_16 hts hK) rfl rfl dX3_goOnWithNextSink_33 (fun H locs hV => ?_)
    refine hr_aload_n hx hb dX3_goOnWithNextSink_36 rfl (hr_at hl 0 rfl) ?_
    refine lv_iconst (v := 0) hx hb dX3_goOnWithNextSink_37 (by decide) ?_
    refine hr_aload_n hx hb dX3_goOnWithNextSink_38 rfl (hr_at hl 0 rfl) ?_
    obtain ⟨v11, g12, h13⟩ := hbind h10; clear h10
    refine h_gI hx hb hown hV g12 (flRX3_16 hts hK) dX3_goOnWithNextSink_39 ?_
    obtain ⟨b16, g17, h18⟩ := hbind h13; clear h13
    obtain ⟨_, _, e19, q19⟩ := rcv_inv g17
    obtain ⟨r14, S15, g20, h21⟩ := hbn2 h18; clear h18
    refine h_callU (owner := RX8) (x := ⟨"SortKernel$HeapSorting", "swap", "(II)V"⟩) (n := 2) (As := [.int (0 : Int32), .int v11]) (rest := []) (st1 := []) (fr := 1) (lo := 23) (mc := 0) (ms := 0) C.1 hK hV q19 rfl wd506 wd564 wd505 wd566 wd86 wd565 (va_Decl.of (hts _ wd505) (hts _ wd506)) ⟨by decide, by decide⟩ ⟨by decide, by decide, by decide⟩ ⟨(Nat.le_of_ble_eq_true rfl), (Nat.le_of_ble_eq_true rfl)⟩ rfl hl.1 (hW_ok [] (Nat.le_of_ble_eq_true rfl)) dX3_goOnWithNextSink_42 ⟨(Nat.le_of_ble_eq_true rfl), (Nat.le_of_ble_eq_true rfl)⟩ rfl (by rw [e19]; rfl) (mX8_swap l D fu S8 b16 (0 : Int32) v11 _ g20) (fun H locs hV => ?_)
    refine hr_aload_n hx hb dX3_goOnWithNextSink_45 rfl (hr_at hl 0 rfl) ?_
    refine lv_iconst (v := 0) hx hb dX3_goOnWithNextSink_46 (by decide) ?_
    obtain ⟨b24, g25, h26⟩ := hbind h21; clear h21
    obtain ⟨_, _, e27, q27⟩ := rcv_inv g25
    obtain ⟨r22, S23, g28, h29⟩ := hbn2 h26; clear h26
    refine h_callV (n := 1) (As := [.int (0 : Int32)]) (rest := []) (st1 := []) (fr := 0) (lo := 0) (mc := 0) (ms := 0) C.1 hK hV q27 rfl rfl wd485 wd482 wd484 wd15 wd87 ⟨by decide, by decide, by decide⟩ ⟨(Nat.le_of_ble_eq_true rfl), (Nat.le_of_ble_eq_true rfl)⟩ rfl hl.1 (hW_ok [] (Nat.le_of_ble_eq_true rfl)) dX3_goOnWithNextSink_47 ⟨(Nat.le_of_ble_eq_true rfl), (Nat.le_of_ble_eq_true rfl)⟩ rfl (by rw [e27]; rfl) (mX3_sinkFrom l D fu S15 b24 (0 : Int32) _ g28) (fun H locs hV => ?_)
    refine hr_aload_n hx hb dX3_goOnWithNextSink_50 rfl (hr_at hl 0 rfl) ?_
    refine hr_aload_n hx hb dX3_goOnWithNextSink_51 rfl (hr_at hl 0 rfl) ?_
    obtain ⟨v30, g31, h32⟩ := hbind h29; clear h29
    refine h_gI hx hb hown hV g31 (flRX3_16 hts hK) dX3_goOnWithNextSink_52 ?_
    refine lv_iconst (v := 1) hx hb dX3_goOnWithNextSink_55 (by decide) ?_
    refine lv_icmp_gt (tgt := 63) hx hb dX3_goOnWithNextSink_56 (by decide) (fun c33 => ?_) (fun c33 => ?_)
    · rw [if_pos c33] at h32
      refine lv_iconst (v := 0) hx hb dX3_goOnWithNextSink_63 (by decide) ?_
      exact kX3_goOnWithNextSink_64 C fu S23 (some a0) (0 : Int32) _ _ _ h32 hV (hl_sub hl [] rfl)
    · rw [if_neg c33] at h32
      refine lv_iconst (v := 1) hx hb dX3_goOnWithNextSink_59 (by decide) ?_
      refine lv_goto (tgt := 64) hx hb dX3_goOnWithNextSink_60 (by decide) ?_
      exact kX3_goOnWithNextSink_64 C fu S23 (some a0) (1 : Int32) _ _ _ h32 hV (hl_sub hl [] rfl)
  · rw [if_neg c4] at h3
    refine hr_aload_n hx hb dX3_goOnWithNextSink_7 rfl (hr_at hl 0 rfl) ?_
    refine hr_dup hx hb dX3_goOnWithNextSink_8 ?_
    obtain ⟨v34, g35, h36⟩ := hbind h3; clear h3
    refine h_gI hx hb hown hV g35 (flRX3_13 hts hK) dX3_goOnWithNextSink_9 ?_
    refine lv_iconst (v := 1) hx hb dX3_goOnWithNextSink_12 (by decide) ?_
    refine lv_isub hx hb dX3_goOnWithNextSink_13 ?_
    obtain ⟨S37, g38, h39⟩ := hbind h36; clear h36
    refine h_put hx hb hown hV g38 (fpRX3_13 hts hK) rfl rfl dX3_goOnWithNextSink_14 (fun H locs hV => ?_)
    refine hr_aload_n hx hb dX3_goOnWithNextSink_17 rfl (hr_at hl 0 rfl) ?_
    refine hr_aload_n hx hb dX3_goOnWithNextSink_18 rfl (hr_at hl 0 rfl) ?_
    obtain ⟨v40, g41, h42⟩ := hbind h39; clear h39
    refine h_gI hx hb hown hV g41 (flRX3_13 hts hK) dX3_goOnWithNextSink_19 ?_
    obtain ⟨b45, g46, h47⟩ := hbind h42; clear h42
    obtain ⟨_, _, e48, q48⟩ := rcv_inv g46
    obtain ⟨r43, S44, g49, h50⟩ := hbn2 h47; clear h47
    refine h_callV (n := 1) (As := [.int v40]) (rest := []) (st1 := []) (fr := 0) (lo := 0) (mc := 0) (ms := 0) C.1 hK hV q48 rfl rfl wd485 wd482 wd484 wd15 wd87 ⟨by decide, by decide, by decide⟩ ⟨(Nat.le_of_ble_eq_true rfl), (Nat.le_of_ble_eq_true rfl)⟩ rfl hl.1 (hW_ok [] (Nat.le_of_ble_eq_true rfl)) dX3_goOnWithNextSink_22 ⟨(Nat.le_of_ble_eq_true rfl), (Nat.le_of_ble_eq_true rfl)⟩ rfl (by rw [e48]; rfl) (mX3_sinkFrom l D fu S37 b45 v40 _ g49) (fun H locs hV => ?_)
    exact h_vret hx hb hr hlk hV h50 (Nat.le_of_ble_eq_true rfl) (Nat.le_of_ble_eq_true rfl) dX3_goOnWithNextSink_25
def fX3_compareNext_108 (fu : Nat) (S : hS) (a0 : Nat) : Option (Unit × hS) := (rcv S 3 (some a0)).bind fun b3 => bn2 (fX3_goOnWithNextSink fu S b3) fun _ S2 => some ((), S2)
set_option maxHeartbeats 4000000 in
set_option maxRecDepth 100000 in
theorem kX3_compareNext_108 {p : Program} {l : Launch} {e : Env} {s : State} {m : MethodId} {args : Array Value} {below : List Frame} {meth : Method} {c : Code} {D : hD} {S0 : hS} {z : Unit × hS} (C : hCx p m c cX3_compareNext 2 s args RX3 meth none D) (fu : Nat) : ∀ (S : hS) (a0 : Nat) (H : Heap) (locs : List Loc) (ls : Array Slot), fX3_compareNext_108 fu S a0 = some z → h_V D (h_A S0) s S H locs → hl_has ls 2 [(0, .inr (some a0))] → W p l e { frames := 3, cells := 0, slots := 0, locals := 65 } s m args below meth c H locs 0 0 (MQ below (h_Q D (h_A S0) none z.2) args s 0 0 (h_A S0)) (F0 m 108 ls []) := by
  obtain ⟨-, hx, hb, hml, hown, hr, hlk, hK, hts⟩ := id C
  intro S a0 _ _ _ h hV hl
  unfold fX3_compareNext_108 at h
  refine hr_aload_n hx hb dX3_compareNext_108 rfl (hr_at hl 0 rfl) ?_
  obtain ⟨b3, g4, h5⟩ := hbind h; clear h
  obtain ⟨_, _, e6, q6⟩ := rcv_inv g4
  obtain ⟨r1, S2, g7, h8⟩ := hbn2 h5; clear h5
  refine h_callV (n := 0) (As := []) (rest := []) (st1 := []) (fr := 2) (lo := 45) (mc := 0) (ms := 0) C.1 hK hV q6 rfl rfl wd570 wd567 wd569 wd26 wd87 ⟨by decide, by decide, by decide⟩ ⟨(Nat.le_of_ble_eq_true rfl), (Nat.le_of_ble_eq_true rfl)⟩ rfl hl.1 (hW_ok [] (Nat.le_of_ble_eq_true rfl)) dX3_compareNext_109 ⟨(Nat.le_of_ble_eq_true rfl), (Nat.le_of_ble_eq_true rfl)⟩ rfl (by rw [e6]; rfl) (mX3_goOnWithNextSink l D fu S b3 _ g7) (fun H locs hV => ?_)
  exact h_vret hx hb hr hlk hV h8 (Nat.le_of_ble_eq_true rfl) (Nat.le_of_ble_eq_true rfl) dX3_compareNext_112
def fX3_compareNext_93 (fu : Nat) (S : hS) (a0 : Nat) (x1 : Int32) : Option (Unit × hS) := if x1 = 0 then (fX3_compareNext_108 fu S a0) else ((gI S 3 7 (some a0)).bind fun v2 =>
(gI S 3 5 (some a0)).bind fun v5 =>
if v2 < v5 then (some ((), S)) else (fX3_compareNext_108 fu S a0))
set_option maxHeartbeats 4000000 in
set_option maxRecDepth 100000 in
theorem kX3_compareNext_93 {p : Program} {l : Launch} {e : Env} {s : State} {m : MethodId} {args : Array Value} {below : List Frame} {meth : Method} {c : Code} {D : hD} {S0 : hS} {z : Unit × hS} (C : hCx p m c cX3_compareNext 2 s args RX3 meth none D) (fu : Nat) : ∀ (S : hS) (a0 : Nat) (x1 : Int32) (H : Heap) (locs : List Loc) (ls : Array Slot), fX3_compareNext_93 fu S a0 x1 = some z → h_V D (h_A S0) s S H locs → hl_has ls 2 [(0, .inr (some a0)), (1, .inl x1)] → W p l e { frames := 3, cells := 0, slots := 0, locals := 65 } s m args below meth c H locs 0 0 (MQ below (h_Q D (h_A S0) none z.2) args s 0 0 (h_A S0)) (F0 m 93 ls []) := by
  obtain ⟨-, hx, hb, hml, hown, hr, hlk, hK, hts⟩ := id C
  intro S a0 x1 _ _ _ h hV hl
  unfold fX3_compareNext_93 at h
  refine lv_iload_n hx hb dX3_compareNext_93 rfl (hi_at hl 1 rfl) ?_
  refine lv_if_eq (tgt := 108) hx hb dX3_compareNext_94 (by decide) (fun c1 => ?_) (fun c1 => ?_)
  · rw [if_pos c1] at h
    exact kX3_compareNext_108 C fu S a0 _ _ _ h hV (hl_sub hl [0] rfl)
  · rw [if_neg c1] at h
    refine hr_aload_n hx hb dX3_compareNext_97 rfl (hr_at hl 0 rfl) ?_
    obtain ⟨v2, g3, h4⟩ := hbind h; clear h
    refine h_gI hx hb hown hV g3 (flRX3_27 hts hK) dX3_compareNext_98 ?_
    refine hr_aload_n hx hb dX3_compareNext_101 rfl (hr_at hl 0 rfl) ?_
    obtain ⟨v5, g6, h7⟩ := hbind h4; clear h4
    refine h_gI hx hb hown hV g6 (flRX3_16 hts hK) dX3_compareNext_102 ?_
    refine lv_icmp_lt (tgt := 112) hx hb dX3_compareNext_105 (by decide) (fun c8 => ?_) (fun c8 => ?_)
    · rw [if_pos c8] at h7
      exact h_vret hx hb hr hlk hV h7 (Nat.le_of_ble_eq_true rfl) (Nat.le_of_ble_eq_true rfl) dX3_compareNext_112
    · rw [if_neg c8] at h7
      exact kX3_compareNext_108 C fu S a0 _ _ _ h7 hV (hl_sub hl [0] rfl)
def fX3_compareNext_68 (fu : Nat) (S : hS) (a0 : Nat) (t0 : Int32) : Option (Unit × hS) := if t0 = 0 then (fX3_compareNext_93 fu S a0 t0) else ((gI S 3 6 (some a0)).bind fun v2 =>
(gI S 3 7 (some a0)).bind fun v5 =>
(rcv S 3 (some a0)).bind fun b10 =>
bn2 (fX8_swap fu S b10 v2 v5) fun _ S9 =>
(gI S9 3 7 (some a0)).bind fun v16 =>
(rcv S9 3 (some a0)).bind fun b21 =>
bn2 (fX3_sinkFrom fu S9 b21 v16) fun _ S20 =>
fX3_compareNext_93 fu S20 a0 t0)
set_option maxHeartbeats 4000000 in
set_option maxRecDepth 100000 in
theorem kX3_compareNext_68 {p : Program} {l : Launch} {e : Env} {s : State} {m : MethodId} {args : Array Value} {below : List Frame} {meth : Method} {c : Code} {D : hD} {S0 : hS} {z : Unit × hS} (C : hCx p m c cX3_compareNext 2 s args RX3 meth none D) (fu : Nat) : ∀ (S : hS) (a0 : Nat) (t0 : Int32) (H : Heap) (locs : List Loc) (ls : Array Slot), fX3_compareNext_68 fu S a0 t0 = some z → h_V D (h_A S0) s S H locs → hl_has ls 2 [(0, .inr (some a0))] → W p l e { frames := 3, cells := 0, slots := 0, locals := 65 } s m args below meth c H locs 0 0 (MQ below (h_Q D (h_A S0) none z.2) args s 0 0 (h_A S0)) (F0 m 68 ls [.int t0]) := by
  obtain ⟨-, hx, hb, hml, hown, hr, hlk, hK, hts⟩ := id C
  intro S a0 t0 _ _ _ h hV hl
  unfold fX3_compareNext_68 at h
  refine h_istore_n (tl' := [(1, .inl t0), (0, .inr (some a0))]) hx hb dX3_compareNext_68 rfl hl (by decide) rfl (fun ls hl => ?_)
  refine lv_iload_n hx hb dX3_compareNext_69 rfl (hi_at hl 0 rfl) ?_
  refine lv_if_eq (tgt := 93) hx hb dX3_compareNext_70 (by decide) (fun c1 => ?_) (fun c1 => ?_)
  · rw [if_pos c1] at h
    exact kX3_compareNext_93 C fu S a0 t0 _ _ _ h hV (hl_sub hl [1, 0] rfl)
  · rw [if_neg c1] at h
    refine hr_aload_n hx hb dX3_compareNext_73 rfl (hr_at hl 1 rfl) ?_
    refine hr_aload_n hx hb dX3_compareNext_74 rfl (hr_at hl 1 rfl) ?_
    obtain ⟨v2, g3, h4⟩ := hbind h; clear h
    refine h_gI hx hb hown hV g3 (flRX3_34 hts hK) dX3_compareNext_75 ?_
    refine hr_aload_n hx hb dX3_compareNext_78 rfl (hr_at hl 1 rfl) ?_
    obtain ⟨v5, g6, h7⟩ := hbind h4; clear h4
    refine h_gI hx hb hown hV g6 (flRX3_27 hts hK) dX3_compareNext_79 ?_
    obtain ⟨b10, g11, h12⟩ := hbind h7; clear h7
    obtain ⟨_, _, e13, q13⟩ := rcv_inv g11
    obtain ⟨r8, S9, g14, h15⟩ := hbn2 h12; clear h12
    refine h_callU (owner := RX8) (x := ⟨"SortKernel$HeapSorting", "swap", "(II)V"⟩) (n := 2) (As := [.int v2, .int v5]) (rest := []) (st1 := []) (fr := 1) (lo := 23) (mc := 0) (ms := 0) C.1 hK hV q13 rfl wd506 wd564 wd505 wd566 wd86 wd565 (va_Decl.of (hts _ wd505) (hts _ wd506)) ⟨by decide, by decide⟩ ⟨by decide, by decide, by decide⟩ ⟨(Nat.le_of_ble_eq_true rfl), (Nat.le_of_ble_eq_true rfl)⟩ rfl hl.1 (hW_ok [] (Nat.le_of_ble_eq_true rfl)) dX3_compareNext_82 ⟨(Nat.le_of_ble_eq_true rfl), (Nat.le_of_ble_eq_true rfl)⟩ rfl (by rw [e13]; rfl) (mX8_swap l D fu S b10 v2 v5 _ g14) (fun H locs hV => ?_)
    refine hr_aload_n hx hb dX3_compareNext_85 rfl (hr_at hl 1 rfl) ?_
    refine hr_aload_n hx hb dX3_compareNext_86 rfl (hr_at hl 1 rfl) ?_
    obtain ⟨v16, g17, h18⟩ := hbind h15; clear h15
    refine h_gI hx hb hown hV g17 (flRX3_27 hts hK) dX3_compareNext_87 ?_
    obtain ⟨b21, g22, h23⟩ := hbind h18; clear h18
    obtain ⟨_, _, e24, q24⟩ := rcv_inv g22
    obtain ⟨r19, S20, g25, h26⟩ := hbn2 h23; clear h23
    refine h_callV (n := 1) (As := [.int v16]) (rest := []) (st1 := []) (fr := 0) (lo := 0) (mc := 0) (ms := 0) C.1 hK hV q24 rfl rfl wd485 wd482 wd484 wd15 wd87 ⟨by decide, by decide, by decide⟩ ⟨(Nat.le_of_ble_eq_true rfl), (Nat.le_of_ble_eq_true rfl)⟩ rfl hl.1 (hW_ok [] (Nat.le_of_ble_eq_true rfl)) dX3_compareNext_90 ⟨(Nat.le_of_ble_eq_true rfl), (Nat.le_of_ble_eq_true rfl)⟩ rfl (by rw [e24]; rfl) (mX3_sinkFrom l D fu S9 b21 v16 _ g25) (fun H locs hV => ?_)
    exact kX3_compareNext_93 C fu S20 a0 t0 _ _ _ h26 hV (hl_sub hl [1, 0] rfl)
def fX3_compareNext_38 (fu : Nat) (S : hS) (a0 : Nat) : Option (Unit × hS) := (zz (0 : Int32)).bind fun _ => (pV S 3 8 (some a0) (.int (0 : Int32))).bind fun S1 => some ((), S1)
set_option maxHeartbeats 4000000 in
set_option maxRecDepth 100000 in
theorem kX3_compareNext_38 {p : Program} {l : Launch} {e : Env} {s : State} {m : MethodId} {args : Array Value} {below : List Frame} {meth : Method} {c : Code} {D : hD} {S0 : hS} {z : Unit × hS} (C : hCx p m c cX3_compareNext 2 s args RX3 meth none D) (fu : Nat) : ∀ (S : hS) (a0 : Nat) (H : Heap) (locs : List Loc) (ls : Array Slot), fX3_compareNext_38 fu S a0 = some z → h_V D (h_A S0) s S H locs → hl_has ls 2 [(0, .inr (some a0))] → W p l e { frames := 3, cells := 0, slots := 0, locals := 65 } s m args below meth c H locs 0 0 (MQ below (h_Q D (h_A S0) none z.2) args s 0 0 (h_A S0)) (F0 m 38 ls []) := by
  obtain ⟨-, hx, hb, hml, hown, hr, hlk, hK, hts⟩ := id C
  intro S a0 _ _ _ h hV hl
  unfold fX3_compareNext_38 at h
  refine hr_aload_n hx hb dX3_compareNext_38 rfl (hr_at hl 0 rfl) ?_
  refine lv_iconst (v := 0) hx hb dX3_compareNext_39 (by decide) ?_
  obtain ⟨v2, g3, h4⟩ := hbind h; clear h
  obtain ⟨S1, g5, h6⟩ := hbind h4; clear h4
  refine h_put hx hb hown hV g5 (fpRX3_23 hts hK) (zz_nar (zz_inv g3).2) (zz_fit (zz_inv g3).2) dX3_compareNext_40 (fun H locs hV => ?_)
  exact h_vret hx hb hr hlk hV h6 (Nat.le_of_ble_eq_true rfl) (Nat.le_of_ble_eq_true rfl) dX3_compareNext_43
def fX3_compareNext (fu : Nat) (S : hS) (a0 : Nat) : Option (Unit × hS) := (gI S 3 8 (some a0)).bind fun v1 => if v1 = 0 then ((gI S 3 6 (some a0)).bind fun v5 =>
(rcv S 3 (some a0)).bind fun b10 =>
bn2 (fX8_cell fu S b10 v5) fun r8 S9 =>
(gI S9 3 7 (some a0)).bind fun v16 =>
(rcv S9 3 (some a0)).bind fun b21 =>
bn2 (fX8_cell fu S9 b21 v16) fun r19 S20 =>
if r19 ≤ r8 then (fX3_compareNext_68 fu S20 a0 (0 : Int32)) else (fX3_compareNext_68 fu S20 a0 (1 : Int32))) else ((gI S 3 7 (some a0)).bind fun v28 =>
(rcv S 3 (some a0)).bind fun b33 =>
bn2 (fX8_cell fu S b33 v28) fun r31 S32 =>
(gI S32 3 7 (some a0)).bind fun v39 =>
(rcv S32 3 (some a0)).bind fun b44 =>
bn2 (fX8_cell fu S32 b44 (v39 + (1 : Int32))) fun r42 S43 =>
if r42 ≤ r31 then (fX3_compareNext_38 fu S43 a0) else ((gI S43 3 7 (some a0)).bind fun v51 =>
(pV S43 3 7 (some a0) (.int (v51 + (1 : Int32)))).bind fun S54 =>
fX3_compareNext_38 fu S54 a0))
set_option maxHeartbeats 4000000 in
set_option maxRecDepth 100000 in
theorem mX3_compareNext (l : Launch) (D : hD) (fu : Nat) (S : hS) (a0 : Nat) (z : Unit × hS) (h : fX3_compareNext fu S a0 = some z) : hM l D yX3_compareNext cX3_compareNext 2 none 3 65 0 0 [va_rf (some a0)] S none z.2 := by
  refine h_body [.inr (some a0)] RX3 (by decide) rfl (Nat.le_of_ble_eq_true rfl) ?_
  intro p e s m args below meth c C hin ls hV hl
  obtain ⟨-, hx, hb, hml, hown, hr, hlk, hK, hts⟩ := id C
  unfold fX3_compareNext at h
  refine hr_aload_n hx hb dX3_compareNext_0 rfl (hr_at hl 0 rfl) ?_
  obtain ⟨v1, g2, h3⟩ := hbind h; clear h
  refine h_gI hx hb hown hV g2 (flRX3_23 hts hK) dX3_compareNext_1 ?_
  refine lv_if_eq (tgt := 44) hx hb dX3_compareNext_4 (by decide) (fun c4 => ?_) (fun c4 => ?_)
  · rw [if_pos c4] at h3
    refine hr_aload_n hx hb dX3_compareNext_44 rfl (hr_at hl 0 rfl) ?_
    refine hr_aload_n hx hb dX3_compareNext_45 rfl (hr_at hl 0 rfl) ?_
    obtain ⟨v5, g6, h7⟩ := hbind h3; clear h3
    refine h_gI hx hb hown hV g6 (flRX3_34 hts hK) dX3_compareNext_46 ?_
    obtain ⟨b10, g11, h12⟩ := hbind h7; clear h7
    obtain ⟨_, _, e13, q13⟩ := rcv_inv g11
    obtain ⟨r8, S9, g14, h15⟩ := hbn2 h12; clear h12
    refine h_callU (owner := RX8) (x := ⟨"SortKernel$HeapSorting", "cell", "(I)I"⟩) (n := 1) (As := [.int v5]) (rest := []) (st1 := [.int r8]) (fr := 1) (lo := 21) (mc := 0) (ms := 0) C.1 hK hV q13 rfl wd546 wd561 wd545 wd563 wd86 wd562 (va_Decl.of (hts _ wd545) (hts _ wd546)) ⟨by decide, by decide⟩ ⟨by decide, by decide, by decide⟩ ⟨(Nat.le_of_ble_eq_true rfl), (Nat.le_of_ble_eq_true rfl)⟩ rfl hl.1 (hW_ok [] (Nat.le_of_ble_eq_true rfl)) dX3_compareNext_49 ⟨(Nat.le_of_ble_eq_true rfl), (Nat.le_of_ble_eq_true rfl)⟩ rfl (by rw [e13]; rfl) (mX8_cell l D fu S b10 v5 _ g14) (fun H locs hV => ?_)
    refine hr_aload_n hx hb dX3_compareNext_52 rfl (hr_at hl 0 rfl) ?_
    refine hr_aload_n hx hb dX3_compareNext_53 rfl (hr_at hl 0 rfl) ?_
    obtain ⟨v16, g17, h18⟩ := hbind h15; clear h15
    refine h_gI hx hb hown hV g17 (flRX3_27 hts hK) dX3_compareNext_54 ?_
    obtain ⟨b21, g22, h23⟩ := hbind h18; clear h18
    obtain ⟨_, _, e24, q24⟩ := rcv_inv g22
    obtain ⟨r19, S20, g25, h26⟩ := hbn2 h23; clear h23
    refine h_callU (owner := RX8) (x := ⟨"SortKernel$HeapSorting", "cell", "(I)I"⟩) (n := 1) (As := [.int v16]) (rest := [.int r8]) (st1 := [.int r19, .int r8]) (fr := 1) (lo := 21) (mc := 0) (ms := 0) C.1 hK hV q24 rfl wd546 wd561 wd545 wd563 wd86 wd562 (va_Decl.of (hts _ wd545) (hts _ wd546)) ⟨by decide, by decide⟩ ⟨by decide, by decide, by decide⟩ ⟨(Nat.le_of_ble_eq_true rfl), (Nat.le_of_ble_eq_true rfl)⟩ rfl hl.1 (hW_ok [.inl r8] (Nat.le_of_ble_eq_true rfl)) dX3_compareNext_57 ⟨(Nat.le_of_ble_eq_true rfl), (Nat.le_of_ble_eq_true rfl)⟩ rfl (by rw [e24]; rfl) (mX8_cell l D fu S9 b21 v16 _ g25) (fun H locs hV => ?_)
    refine lv_icmp_ge (tgt := 67) hx hb dX3_compareNext_60 (by decide) (fun c27 => ?_) (fun c27 => ?_)
    · rw [if_pos c27] at h26
      refine lv_iconst (v := 0) hx hb dX3_compareNext_67 (by decide) ?_
      exact kX3_compareNext_68 C fu S20 a0 (0 : Int32) _ _ _ h26 hV (hl_sub hl [0] rfl)
    · rw [if_neg c27] at h26
      refine lv_iconst (v := 1) hx hb dX3_compareNext_63 (by decide) ?_
      refine lv_goto (tgt := 68) hx hb dX3_compareNext_64 (by decide) ?_
      exact kX3_compareNext_68 C fu S20 a0 (1 : Int32) _ _ _ h26 hV (hl_sub hl [0] rfl)
  · rw [if_neg c4] at h3
    refine hr_aload_n hx hb dX3_compareNext_7 rfl (hr_at hl 0 rfl) ?_
    refine hr_aload_n hx hb dX3_compareNext_8 rfl (hr_at hl 0 rfl) ?_
    obtain ⟨v28, g29, h30⟩ := hbind h3; clear h3
    refine h_gI hx hb hown hV g29 (flRX3_27 hts hK) dX3_compareNext_9 ?_
    obtain ⟨b33, g34, h35⟩ := hbind h30; clear h30
    obtain ⟨_, _, e36, q36⟩ := rcv_inv g34
    obtain ⟨r31, S32, g37, h38⟩ := hbn2 h35; clear h35
    refine h_callU (owner := RX8) (x := ⟨"SortKernel$HeapSorting", "cell", "(I)I"⟩) (n := 1) (As := [.int v28]) (rest := []) (st1 := [.int r31]) (fr := 1) (lo := 21) (mc := 0) (ms := 0) C.1 hK hV q36 rfl wd546 wd561 wd545 wd563 wd86 wd562 (va_Decl.of (hts _ wd545) (hts _ wd546)) ⟨by decide, by decide⟩ ⟨by decide, by decide, by decide⟩ ⟨(Nat.le_of_ble_eq_true rfl), (Nat.le_of_ble_eq_true rfl)⟩ rfl hl.1 (hW_ok [] (Nat.le_of_ble_eq_true rfl)) dX3_compareNext_12 ⟨(Nat.le_of_ble_eq_true rfl), (Nat.le_of_ble_eq_true rfl)⟩ rfl (by rw [e36]; rfl) (mX8_cell l D fu S b33 v28 _ g37) (fun H locs hV => ?_)
    refine hr_aload_n hx hb dX3_compareNext_15 rfl (hr_at hl 0 rfl) ?_
    refine hr_aload_n hx hb dX3_compareNext_16 rfl (hr_at hl 0 rfl) ?_
    obtain ⟨v39, g40, h41⟩ := hbind h38; clear h38
    refine h_gI hx hb hown hV g40 (flRX3_27 hts hK) dX3_compareNext_17 ?_
    refine lv_iconst (v := 1) hx hb dX3_compareNext_20 (by decide) ?_
    refine lv_iadd hx hb dX3_compareNext_21 ?_
    obtain ⟨b44, g45, h46⟩ := hbind h41; clear h41
    obtain ⟨_, _, e47, q47⟩ := rcv_inv g45
    obtain ⟨r42, S43, g48, h49⟩ := hbn2 h46; clear h46
    refine h_callU (owner := RX8) (x := ⟨"SortKernel$HeapSorting", "cell", "(I)I"⟩) (n := 1) (As := [.int (v39 + (1 : Int32))]) (rest := [.int r31]) (st1 := [.int r42, .int r31]) (fr := 1) (lo := 21) (mc := 0) (ms := 0) C.1 hK hV q47 rfl wd546 wd561 wd545 wd563 wd86 wd562 (va_Decl.of (hts _ wd545) (hts _ wd546)) ⟨by decide, by decide⟩ ⟨by decide, by decide, by decide⟩ ⟨(Nat.le_of_ble_eq_true rfl), (Nat.le_of_ble_eq_true rfl)⟩ rfl hl.1 (hW_ok [.inl r31] (Nat.le_of_ble_eq_true rfl)) dX3_compareNext_22 ⟨(Nat.le_of_ble_eq_true rfl), (Nat.le_of_ble_eq_true rfl)⟩ rfl (by rw [e47]; rfl) (mX8_cell l D fu S32 b44 (v39 + (1 : Int32)) _ g48) (fun H locs hV => ?_)
    refine lv_icmp_ge (tgt := 38) hx hb dX3_compareNext_25 (by decide) (fun c50 => ?_) (fun c50 => ?_)
    · rw [if_pos c50] at h49
      exact kX3_compareNext_38 C fu S43 a0 _ _ _ h49 hV (hl_sub hl [0] rfl)
    · rw [if_neg c50] at h49
      refine hr_aload_n hx hb dX3_compareNext_28 rfl (hr_at hl 0 rfl) ?_
      refine hr_dup hx hb dX3_compareNext_29 ?_
      obtain ⟨v51, g52, h53⟩ := hbind h49; clear h49
      refine h_gI hx hb hown hV g52 (flRX3_27 hts hK) dX3_compareNext_30 ?_
      refine lv_iconst (v := 1) hx hb dX3_compareNext_33 (by decide) ?_
      refine lv_iadd hx hb dX3_compareNext_34 ?_
      obtain ⟨S54, g55, h56⟩ := hbind h53; clear h53
      refine h_put hx hb hown hV g55 (fpRX3_27 hts hK) rfl rfl dX3_compareNext_35 (fun H locs hV => ?_)
      exact kX3_compareNext_38 C fu S54 a0 _ _ _ h56 hV (hl_sub hl [0] rfl)
def fX4_init (fu : Nat) (S : hS) (a0 : Nat) (x1 : Int32) (x2 : Int32) (x3 : Int32) : Option (Unit × hS) := (pV S 4 0 (some a0) (.int x1)).bind fun S1 => (pV S1 4 1 (some a0) (.int x2)).bind fun S4 => (pV S4 4 4 (some a0) (.int x3)).bind fun S7 => bn2 (fX1_init fu (nO S7 1) S7.2) fun _ S11 => (pV S11 4 2 (some a0) (va_rf (some S7.2))).bind fun S14 => bn2 (fX1_init fu (nO S14 1) S14.2) fun _ S18 => (pV S18 4 3 (some a0) (va_rf (some S14.2))).bind fun S21 => (pV S21 4 5 (some a0) (.int (1 : Int32))).bind fun S24 => (pV S24 4 7 (some a0) (.int (-1 : Int32))).bind fun S27 => (pV S27 4 8 (some a0) (.int (-1 : Int32))).bind fun S30 => some ((), S30)
set_option maxHeartbeats 4000000 in
set_option maxRecDepth 100000 in
theorem mX4_init (l : Launch) (D : hD) (fu : Nat) (S : hS) (a0 : Nat) (x1 : Int32) (x2 : Int32) (x3 : Int32) (z : Unit × hS) (h : fX4_init fu S a0 x1 x2 x3 = some z) : hM l D yX4_init cX4_init 4 none 2 32 2 6 [va_rf (some a0), .int x1, .int x2, .int x3] S none z.2 := by
  refine h_body [.inr (some a0), .inl x1, .inl x2, .inl x3] RX4 (by decide) rfl (Nat.le_of_ble_eq_true rfl) ?_
  intro p e s m args below meth c C hin ls hV hl
  obtain ⟨-, hx, hb, hml, hown, hr, hlk, hK, hts⟩ := id C
  unfold fX4_init at h
  refine hr_aload_n hx hb dX4_init_0 rfl (hr_at hl 0 rfl) ?_
  refine h_oinit hx hb (hl.1.trans hml.symm) hown hts wd203 wd97 wd98 (Nat.le_of_ble_eq_true rfl) (hW_okL [] (Nat.le_of_ble_eq_true rfl)) dX4_init_1 ?_
  refine hr_aload_n hx hb dX4_init_4 rfl (hr_at hl 0 rfl) ?_
  refine lv_iload_n hx hb dX4_init_5 rfl (hi_at hl 1 rfl) ?_
  obtain ⟨S1, g2, h3⟩ := hbind h; clear h
  refine h_put hx hb hown hV g2 (fpRX4_9 hts hK hown hin) rfl rfl dX4_init_6 (fun H locs hV => ?_)
  refine hr_aload_n hx hb dX4_init_9 rfl (hr_at hl 0 rfl) ?_
  refine lv_iload_n hx hb dX4_init_10 rfl (hi_at hl 2 rfl) ?_
  obtain ⟨S4, g5, h6⟩ := hbind h3; clear h3
  refine h_put hx hb hown hV g5 (fpRX4_15 hts hK hown hin) rfl rfl dX4_init_11 (fun H locs hV => ?_)
  refine hr_aload_n hx hb dX4_init_14 rfl (hr_at hl 0 rfl) ?_
  refine lv_iload_n hx hb dX4_init_15 rfl (hi_at hl 3 rfl) ?_
  obtain ⟨S7, g8, h9⟩ := hbind h6; clear h6
  refine h_put hx hb hown hV g8 (fpRX4_18 hts hK) rfl rfl dX4_init_16 (fun H locs hV => ?_)
  refine hr_aload_n hx hb dX4_init_19 rfl (hr_at hl 0 rfl) ?_
  refine h_new (ci := 1) (ty := tyX1) hx hb hts hK uwX1 tyX1_ok hown (hts _ wd204) (hts _ wd116) (hts _ wd81) rfl rfl hV (Nat.le_of_ble_eq_true rfl) (Nat.le_of_ble_eq_true rfl) dX4_init_20 (fun H hV => ?_)
  refine hr_dup hx hb dX4_init_23 ?_
  obtain ⟨r10, S11, g12, h13⟩ := hbn2 h9; clear h9
  refine h_callIN (b := S7.2) (n := 0) (As := []) (rest := [va_rf (some S7.2), va_rf (some a0)]) (st1 := [va_rf (some S7.2), va_rf (some a0)]) (fr := 1) (lo := 12) (mc := 0) (ms := 0) C.1 hK hV wd119 (wo205 hK.2) wd118 wd81 rfl ⟨by decide, by decide, by decide⟩ ⟨(Nat.le_of_ble_eq_true rfl), (Nat.le_of_ble_eq_true rfl)⟩ rfl hl.1 (hW_ok [.inr (some S7.2), .inr (some a0)] (Nat.le_of_ble_eq_true rfl)) dX4_init_24 ⟨(Nat.le_of_ble_eq_true rfl), (Nat.le_of_ble_eq_true rfl)⟩ rfl rfl (mX1_init l D fu (nO S7 1) S7.2 _ g12) (fun H locs hV => ?_)
  obtain ⟨S14, g15, h16⟩ := hbind h13; clear h13
  refine h_put hx hb hown hV g15 (fpRX4_24 hts hK hown hin) (h_narO _) (h_fitO _) dX4_init_27 (fun H locs hV => ?_)
  refine hr_aload_n hx hb dX4_init_30 rfl (hr_at hl 0 rfl) ?_
  refine h_new (ci := 1) (ty := tyX1) hx hb hts hK uwX1 tyX1_ok hown (hts _ wd204) (hts _ wd116) (hts _ wd81) rfl rfl hV (Nat.le_of_ble_eq_true rfl) (Nat.le_of_ble_eq_true rfl) dX4_init_31 (fun H hV => ?_)
  refine hr_dup hx hb dX4_init_34 ?_
  obtain ⟨r17, S18, g19, h20⟩ := hbn2 h16; clear h16
  refine h_callIN (b := S14.2) (n := 0) (As := []) (rest := [va_rf (some S14.2), va_rf (some a0)]) (st1 := [va_rf (some S14.2), va_rf (some a0)]) (fr := 1) (lo := 12) (mc := 0) (ms := 0) C.1 hK hV wd119 (wo205 hK.2) wd118 wd81 rfl ⟨by decide, by decide, by decide⟩ ⟨(Nat.le_of_ble_eq_true rfl), (Nat.le_of_ble_eq_true rfl)⟩ rfl hl.1 (hW_ok [.inr (some S14.2), .inr (some a0)] (Nat.le_of_ble_eq_true rfl)) dX4_init_35 ⟨(Nat.le_of_ble_eq_true rfl), (Nat.le_of_ble_eq_true rfl)⟩ rfl rfl (mX1_init l D fu (nO S14 1) S14.2 _ g19) (fun H locs hV => ?_)
  obtain ⟨S21, g22, h23⟩ := hbind h20; clear h20
  refine h_put hx hb hown hV g22 (fpRX4_28 hts hK hown hin) (h_narO _) (h_fitO _) dX4_init_38 (fun H locs hV => ?_)
  refine hr_aload_n hx hb dX4_init_41 rfl (hr_at hl 0 rfl) ?_
  refine lv_iconst (v := 1) hx hb dX4_init_42 (by decide) ?_
  obtain ⟨S24, g25, h26⟩ := hbind h23; clear h23
  refine h_put hx hb hown hV g25 (fpRX4_31 hts hK) rfl rfl dX4_init_43 (fun H locs hV => ?_)
  refine hr_aload_n hx hb dX4_init_46 rfl (hr_at hl 0 rfl) ?_
  refine lv_iconst (v := -1) hx hb dX4_init_47 (by decide) ?_
  obtain ⟨S27, g28, h29⟩ := hbind h26; clear h26
  refine h_put hx hb hown hV g28 (fpRX4_34 hts hK) rfl rfl dX4_init_48 (fun H locs hV => ?_)
  refine hr_aload_n hx hb dX4_init_51 rfl (hr_at hl 0 rfl) ?_
  refine lv_iconst (v := -1) hx hb dX4_init_52 (by decide) ?_
  obtain ⟨S30, g31, h32⟩ := hbind h29; clear h29
  refine h_put hx hb hown hV g31 (fpRX4_37 hts hK) rfl rfl dX4_init_53 (fun H locs hV => ?_)
  exact h_vret hx hb hr hlk hV h32 (Nat.le_of_ble_eq_true rfl) (Nat.le_of_ble_eq_true rfl) dX4_init_56
def fX4_hasNumber (fu : Nat) (S : hS) (a0 : Nat) (x1 : Int32) : Option (Int32 × hS) := if x1 < 0 then ((zz (0 : Int32)).bind (fun v => some (v, S))) else ((gR S 4 2 (some a0)).bind fun v2 =>
(gI S 1 1 v2).bind fun v5 =>
if v5 ≤ x1 then ((zz (0 : Int32)).bind (fun v => some (v, S))) else ((zz (1 : Int32)).bind (fun v => some (v, S))))
set_option maxHeartbeats 4000000 in
set_option maxRecDepth 100000 in
theorem mX4_hasNumber (l : Launch) (D : hD) (fu : Nat) (S : hS) (a0 : Nat) (x1 : Int32) (z : Int32 × hS) (h : fX4_hasNumber fu S a0 x1 = some z) : hM l D yX4_hasNumber cX4_hasNumber 2 (some .boolean) 0 0 0 0 [va_rf (some a0), .int x1] S (some (.int z.1)) z.2 := by
  refine h_body [.inr (some a0), .inl x1] RX4 (by decide) rfl (Nat.le_of_ble_eq_true rfl) ?_
  intro p e s m args below meth c C hin ls hV hl
  obtain ⟨-, hx, hb, hml, hown, hr, hlk, hK, hts⟩ := id C
  unfold fX4_hasNumber at h
  refine lv_iload_n hx hb dX4_hasNumber_0 rfl (hi_at hl 1 rfl) ?_
  refine lv_if_lt (tgt := 19) hx hb dX4_hasNumber_1 (by decide) (fun c1 => ?_) (fun c1 => ?_)
  · rw [if_pos c1] at h
    refine lv_iconst (v := 0) hx hb dX4_hasNumber_19 (by decide) ?_
    exact h_zret hx hb hr hlk hV h (Nat.le_of_ble_eq_true rfl) (Nat.le_of_ble_eq_true rfl) dX4_hasNumber_20
  · rw [if_neg c1] at h
    refine lv_iload_n hx hb dX4_hasNumber_4 rfl (hi_at hl 1 rfl) ?_
    refine hr_aload_n hx hb dX4_hasNumber_5 rfl (hr_at hl 0 rfl) ?_
    obtain ⟨v2, g3, h4⟩ := hbind h; clear h
    refine h_gR hx hb hown hV g3 (flRX4_24 hts hK) dX4_hasNumber_6 ?_
    obtain ⟨v5, g6, h7⟩ := hbind h4; clear h4
    refine h_gI hx hb hown hV g6 (flRX4_40 hts hK) dX4_hasNumber_9 ?_
    refine lv_icmp_ge (tgt := 19) hx hb dX4_hasNumber_12 (by decide) (fun c8 => ?_) (fun c8 => ?_)
    · rw [if_pos c8] at h7
      refine lv_iconst (v := 0) hx hb dX4_hasNumber_19 (by decide) ?_
      exact h_zret hx hb hr hlk hV h7 (Nat.le_of_ble_eq_true rfl) (Nat.le_of_ble_eq_true rfl) dX4_hasNumber_20
    · rw [if_neg c8] at h7
      refine lv_iconst (v := 1) hx hb dX4_hasNumber_15 (by decide) ?_
      refine lv_goto (tgt := 20) hx hb dX4_hasNumber_16 (by decide) ?_
      exact h_zret hx hb hr hlk hV h7 (Nat.le_of_ble_eq_true rfl) (Nat.le_of_ble_eq_true rfl) dX4_hasNumber_20
def fX4_isSorted (fu : Nat) (S : hS) (a0 : Nat) : Option (Int32 × hS) := (gR S 4 9 (some a0)).bind fun v1 => if v1 = none then ((zz (1 : Int32)).bind (fun v => some (v, S))) else ((gR S 4 9 (some a0)).bind fun v5 =>
(gI4 S 3 v5).bind fun v8 =>
if v8 = 0 then ((zz (0 : Int32)).bind (fun v => some (v, S))) else ((zz (1 : Int32)).bind (fun v => some (v, S))))
set_option maxHeartbeats 4000000 in
set_option maxRecDepth 100000 in
theorem mX4_isSorted (l : Launch) (D : hD) (fu : Nat) (S : hS) (a0 : Nat) (z : Int32 × hS) (h : fX4_isSorted fu S a0 = some z) : hM l D yX4_isSorted cX4_isSorted 1 (some .boolean) 0 0 0 0 [va_rf (some a0)] S (some (.int z.1)) z.2 := by
  refine h_body [.inr (some a0)] RX4 (by decide) rfl (Nat.le_of_ble_eq_true rfl) ?_
  intro p e s m args below meth c C hin ls hV hl
  obtain ⟨-, hx, hb, hml, hown, hr, hlk, hK, hts⟩ := id C
  unfold fX4_isSorted at h
  refine hr_aload_n hx hb dX4_isSorted_0 rfl (hr_at hl 0 rfl) ?_
  obtain ⟨v1, g2, h3⟩ := hbind h; clear h
  refine h_gR hx hb hown hV g2 (flRX4_43 hts hK) dX4_isSorted_1 ?_
  refine hr_ifnull (tgt := 17) hx hb dX4_isSorted_4 (by decide) (fun c4 => ?_) (fun c4 => ?_)
  · rw [if_pos c4] at h3
    refine lv_iconst (v := 1) hx hb dX4_isSorted_17 (by decide) ?_
    refine lv_goto (tgt := 22) hx hb dX4_isSorted_18 (by decide) ?_
    exact h_zret hx hb hr hlk hV h3 (Nat.le_of_ble_eq_true rfl) (Nat.le_of_ble_eq_true rfl) dX4_isSorted_22
  · rw [if_neg c4] at h3
    refine hr_aload_n hx hb dX4_isSorted_7 rfl (hr_at hl 0 rfl) ?_
    obtain ⟨v5, g6, h7⟩ := hbind h3; clear h3
    refine h_gR hx hb hown hV g6 (flRX4_43 hts hK) dX4_isSorted_8 ?_
    obtain ⟨v8, g9, h10⟩ := hbind h7; clear h7
    refine h_gI4 hx hb hown hV g9 (flRX4_47 hts hK) dX4_isSorted_11 ?_
    refine lv_if_eq (tgt := 21) hx hb dX4_isSorted_14 (by decide) (fun c11 => ?_) (fun c11 => ?_)
    · rw [if_pos c11] at h10
      refine lv_iconst (v := 0) hx hb dX4_isSorted_21 (by decide) ?_
      exact h_zret hx hb hr hlk hV h10 (Nat.le_of_ble_eq_true rfl) (Nat.le_of_ble_eq_true rfl) dX4_isSorted_22
    · rw [if_neg c11] at h10
      refine lv_iconst (v := 1) hx hb dX4_isSorted_17 (by decide) ?_
      refine lv_goto (tgt := 22) hx hb dX4_isSorted_18 (by decide) ?_
      exact h_zret hx hb hr hlk hV h10 (Nat.le_of_ble_eq_true rfl) (Nat.le_of_ble_eq_true rfl) dX4_isSorted_22
def fX5_from (fu : Nat) (S : hS) (a0 : Nat) : Option (Int32 × hS) := (gI S 5 5 (some a0)).bind fun v1 => if v1 = 0 then ((gR S 5 1 (some a0)).bind fun v5 =>
(gI S 1 0 v5).bind fun v8 =>
some (v8, S)) else ((gR S 5 4 (some a0)).bind fun v11 =>
(gI S 1 0 v11).bind fun v14 =>
some (v14, S))
set_option maxHeartbeats 4000000 in
set_option maxRecDepth 100000 in
theorem mX5_from (l : Launch) (D : hD) (fu : Nat) (S : hS) (a0 : Nat) (z : Int32 × hS) (h : fX5_from fu S a0 = some z) : hM l D yX5_from cX5_from 1 (some .int) 0 0 0 0 [va_rf (some a0)] S (some (.int z.1)) z.2 := by
  refine h_body [.inr (some a0)] RX5 (by decide) rfl (Nat.le_of_ble_eq_true rfl) ?_
  intro p e s m args below meth c C hin ls hV hl
  obtain ⟨-, hx, hb, hml, hown, hr, hlk, hK, hts⟩ := id C
  unfold fX5_from at h
  refine hr_aload_n hx hb dX5_from_0 rfl (hr_at hl 0 rfl) ?_
  obtain ⟨v1, g2, h3⟩ := hbind h; clear h
  refine h_gI hx hb hown hV g2 (flRX5_61 hts hK) dX5_from_1 ?_
  refine lv_if_eq (tgt := 17) hx hb dX5_from_4 (by decide) (fun c4 => ?_) (fun c4 => ?_)
  · rw [if_pos c4] at h3
    refine hr_aload_n hx hb dX5_from_17 rfl (hr_at hl 0 rfl) ?_
    obtain ⟨v5, g6, h7⟩ := hbind h3; clear h3
    refine h_gR hx hb hown hV g6 (flRX5_68 hts hK) dX5_from_18 ?_
    obtain ⟨v8, g9, h10⟩ := hbind h7; clear h7
    refine h_gI hx hb hown hV g9 (flRX5_65 hts hK) dX5_from_21 ?_
    exact h_iret hx hb hr hlk hV h10 (Nat.le_of_ble_eq_true rfl) (Nat.le_of_ble_eq_true rfl) dX5_from_24
  · rw [if_neg c4] at h3
    refine hr_aload_n hx hb dX5_from_7 rfl (hr_at hl 0 rfl) ?_
    obtain ⟨v11, g12, h13⟩ := hbind h3; clear h3
    refine h_gR hx hb hown hV g12 (flRX5_7 hts hK) dX5_from_8 ?_
    obtain ⟨v14, g15, h16⟩ := hbind h13; clear h13
    refine h_gI hx hb hown hV g15 (flRX5_65 hts hK) dX5_from_11 ?_
    refine lv_goto (tgt := 24) hx hb dX5_from_14 (by decide) ?_
    exact h_iret hx hb hr hlk hV h16 (Nat.le_of_ble_eq_true rfl) (Nat.le_of_ble_eq_true rfl) dX5_from_24
def fX5_to (fu : Nat) (S : hS) (a0 : Nat) : Option (Int32 × hS) := (gI S 5 5 (some a0)).bind fun v1 => if v1 = 0 then ((gR S 5 4 (some a0)).bind fun v5 =>
(gI S 1 0 v5).bind fun v8 =>
some (v8, S)) else ((gR S 5 1 (some a0)).bind fun v11 =>
(gI S 1 0 v11).bind fun v14 =>
some (v14, S))
set_option maxHeartbeats 4000000 in
set_option maxRecDepth 100000 in
theorem mX5_to (l : Launch) (D : hD) (fu : Nat) (S : hS) (a0 : Nat) (z : Int32 × hS) (h : fX5_to fu S a0 = some z) : hM l D yX5_to cX5_to 1 (some .int) 0 0 0 0 [va_rf (some a0)] S (some (.int z.1)) z.2 := by
  refine h_body [.inr (some a0)] RX5 (by decide) rfl (Nat.le_of_ble_eq_true rfl) ?_
  intro p e s m args below meth c C hin ls hV hl
  obtain ⟨-, hx, hb, hml, hown, hr, hlk, hK, hts⟩ := id C
  unfold fX5_to at h
  refine hr_aload_n hx hb dX5_to_0 rfl (hr_at hl 0 rfl) ?_
  obtain ⟨v1, g2, h3⟩ := hbind h; clear h
  refine h_gI hx hb hown hV g2 (flRX5_61 hts hK) dX5_to_1 ?_
  refine lv_if_eq (tgt := 17) hx hb dX5_to_4 (by decide) (fun c4 => ?_) (fun c4 => ?_)
  · rw [if_pos c4] at h3
    refine hr_aload_n hx hb dX5_to_17 rfl (hr_at hl 0 rfl) ?_
    obtain ⟨v5, g6, h7⟩ := hbind h3; clear h3
    refine h_gR hx hb hown hV g6 (flRX5_7 hts hK) dX5_to_18 ?_
    obtain ⟨v8, g9, h10⟩ := hbind h7; clear h7
    refine h_gI hx hb hown hV g9 (flRX5_65 hts hK) dX5_to_21 ?_
    exact h_iret hx hb hr hlk hV h10 (Nat.le_of_ble_eq_true rfl) (Nat.le_of_ble_eq_true rfl) dX5_to_24
  · rw [if_neg c4] at h3
    refine hr_aload_n hx hb dX5_to_7 rfl (hr_at hl 0 rfl) ?_
    obtain ⟨v11, g12, h13⟩ := hbind h3; clear h3
    refine h_gR hx hb hown hV g12 (flRX5_68 hts hK) dX5_to_8 ?_
    obtain ⟨v14, g15, h16⟩ := hbind h13; clear h13
    refine h_gI hx hb hown hV g15 (flRX5_65 hts hK) dX5_to_11 ?_
    refine lv_goto (tgt := 24) hx hb dX5_to_14 (by decide) ?_
    exact h_iret hx hb hr hlk hV h16 (Nat.le_of_ble_eq_true rfl) (Nat.le_of_ble_eq_true rfl) dX5_to_24
def fX5_copyRest_45 (fu : Nat) (S : hS) (a0 : Nat) (x1 : Int32) (t0 : Int32) : Option (Unit × hS) := (gR S 5 0 (some a0)).bind fun v1 => (rcv S 5 (some a0)).bind fun b6 => bn2 (fX5_from fu S b6) fun r4 S5 => (rcv S5 5 (some a0)).bind fun b14 => bn2 (fX5_to fu S5 b14) fun r12 S13 => (gI S13 5 11 (some a0)).bind fun v20 => (rcv S13 0 v1).bind fun b25 => bn2 (fX0_copy fu S13 b25 (r4 + x1) (r12 + v20) (t0 - x1)) fun _ S24 => some ((), S24)
set_option maxHeartbeats 4000000 in
set_option maxRecDepth 100000 in
theorem kX5_copyRest_45 {p : Program} {l : Launch} {e : Env} {s : State} {m : MethodId} {args : Array Value} {below : List Frame} {meth : Method} {c : Code} {D : hD} {S0 : hS} {z : Unit × hS} (C : hCx p m c cX5_copyRest 3 s args RX5 meth none D) (fu : Nat) : ∀ (S : hS) (a0 : Nat) (x1 : Int32) (t0 : Int32) (H : Heap) (locs : List Loc) (ls : Array Slot), fX5_copyRest_45 fu S a0 x1 t0 = some z → h_V D (h_A S0) s S H locs → hl_has ls 3 [(0, .inr (some a0)), (1, .inl x1)] → W p l e { frames := 2, cells := 0, slots := 0, locals := 42 } s m args below meth c H locs 0 0 (MQ below (h_Q D (h_A S0) none z.2) args s 0 0 (h_A S0)) (F0 m 45 ls [.int t0]) := by
  obtain ⟨-, hx, hb, hml, hown, hr, hlk, hK, hts⟩ := id C
  intro S a0 x1 t0 _ _ _ h hV hl
  unfold fX5_copyRest_45 at h
  refine h_istore_n (tl' := [(2, .inl t0), (0, .inr (some a0)), (1, .inl x1)]) hx hb dX5_copyRest_45 rfl hl (by decide) rfl (fun ls hl => ?_)
  refine hr_aload_n hx hb dX5_copyRest_46 rfl (hr_at hl 1 rfl) ?_
  obtain ⟨v1, g2, h3⟩ := hbind h; clear h
  refine h_gR hx hb hown hV g2 (flRX5_21 hts hK) dX5_copyRest_47 ?_
  refine hr_aload_n hx hb dX5_copyRest_50 rfl (hr_at hl 1 rfl) ?_
  obtain ⟨b6, g7, h8⟩ := hbind h3; clear h3
  obtain ⟨_, _, e9, q9⟩ := rcv_inv g7
  obtain ⟨r4, S5, g10, h11⟩ := hbn2 h8; clear h8
  refine h_callV (n := 0) (As := []) (rest := [va_rf v1]) (st1 := [.int r4, va_rf v1]) (fr := 0) (lo := 0) (mc := 0) (ms := 0) C.1 hK hV q9 rfl rfl wd577 wd574 wd576 wd27 wd88 ⟨by decide, by decide, by decide⟩ ⟨(Nat.le_of_ble_eq_true rfl), (Nat.le_of_ble_eq_true rfl)⟩ rfl hl.1 (hW_ok [.inr v1] (Nat.le_of_ble_eq_true rfl)) dX5_copyRest_51 ⟨(Nat.le_of_ble_eq_true rfl), (Nat.le_of_ble_eq_true rfl)⟩ rfl (by rw [e9]; rfl) (mX5_from l D fu S b6 _ g10) (fun H locs hV => ?_)
  refine lv_iload_n hx hb dX5_copyRest_54 rfl (hi_at hl 2 rfl) ?_
  refine lv_iadd hx hb dX5_copyRest_55 ?_
  refine hr_aload_n hx hb dX5_copyRest_56 rfl (hr_at hl 1 rfl) ?_
  obtain ⟨b14, g15, h16⟩ := hbind h11; clear h11
  obtain ⟨_, _, e17, q17⟩ := rcv_inv g15
  obtain ⟨r12, S13, g18, h19⟩ := hbn2 h16; clear h16
  refine h_callV (n := 0) (As := []) (rest := [.int (r4 + x1), va_rf v1]) (st1 := [.int r12, .int (r4 + x1), va_rf v1]) (fr := 0) (lo := 0) (mc := 0) (ms := 0) C.1 hK hV q17 rfl rfl wd582 wd579 wd581 wd28 wd88 ⟨by decide, by decide, by decide⟩ ⟨(Nat.le_of_ble_eq_true rfl), (Nat.le_of_ble_eq_true rfl)⟩ rfl hl.1 (hW_ok [.inl (r4 + x1), .inr v1] (Nat.le_of_ble_eq_true rfl)) dX5_copyRest_57 ⟨(Nat.le_of_ble_eq_true rfl), (Nat.le_of_ble_eq_true rfl)⟩ rfl (by rw [e17]; rfl) (mX5_to l D fu S5 b14 _ g18) (fun H locs hV => ?_)
  refine hr_aload_n hx hb dX5_copyRest_60 rfl (hr_at hl 1 rfl) ?_
  obtain ⟨v20, g21, h22⟩ := hbind h19; clear h19
  refine h_gI hx hb hown hV g21 (flRX5_44 hts hK) dX5_copyRest_61 ?_
  refine lv_iadd hx hb dX5_copyRest_64 ?_
  refine lv_iload_n hx hb dX5_copyRest_65 rfl (hi_at hl 0 rfl) ?_
  refine lv_iload_n hx hb dX5_copyRest_66 rfl (hi_at hl 2 rfl) ?_
  refine lv_isub hx hb dX5_copyRest_67 ?_
  obtain ⟨b25, g26, h27⟩ := hbind h22; clear h22
  obtain ⟨_, _, e28, q28⟩ := rcv_inv g26
  obtain ⟨r23, S24, g29, h30⟩ := hbn2 h27; clear h27
  refine h_callVN (n := 3) (As := [.int (r4 + x1), .int (r12 + v20), .int (t0 - x1)]) (rest := []) (st1 := []) (fr := 1) (lo := 18) (mc := 0) (ms := 0) C.1 hK hV q28 rfl rfl wd314 (wo592 hK.2) wd313 wd13 wd79 ⟨by decide, by decide, by decide⟩ ⟨(Nat.le_of_ble_eq_true rfl), (Nat.le_of_ble_eq_true rfl)⟩ rfl hl.1 (hW_ok [] (Nat.le_of_ble_eq_true rfl)) dX5_copyRest_68 ⟨(Nat.le_of_ble_eq_true rfl), (Nat.le_of_ble_eq_true rfl)⟩ rfl (by rw [e28]; rfl) (mX0_copy l D fu S13 b25 (r4 + x1) (r12 + v20) (t0 - x1) _ g29) (fun H locs hV => ?_)
  exact h_vret hx hb hr hlk hV h30 (Nat.le_of_ble_eq_true rfl) (Nat.le_of_ble_eq_true rfl) dX5_copyRest_71
def fX5_copyRest_22 (fu : Nat) (S : hS) (a0 : Nat) (t0 : Int32) : Option (Unit × hS) := (gI S 5 7 (some a0)).bind fun v1 => (gI S 5 8 (some a0)).bind fun v4 => if v4 ≤ v1 then ((gI S 5 10 (some a0)).bind fun v8 =>
fX5_copyRest_45 fu S a0 t0 v8) else ((gI S 5 8 (some a0)).bind fun v11 =>
fX5_copyRest_45 fu S a0 t0 v11)
set_option maxHeartbeats 4000000 in
set_option maxRecDepth 100000 in
theorem kX5_copyRest_22 {p : Program} {l : Launch} {e : Env} {s : State} {m : MethodId} {args : Array Value} {below : List Frame} {meth : Method} {c : Code} {D : hD} {S0 : hS} {z : Unit × hS} (C : hCx p m c cX5_copyRest 3 s args RX5 meth none D) (fu : Nat) : ∀ (S : hS) (a0 : Nat) (t0 : Int32) (H : Heap) (locs : List Loc) (ls : Array Slot), fX5_copyRest_22 fu S a0 t0 = some z → h_V D (h_A S0) s S H locs → hl_has ls 3 [(0, .inr (some a0))] → W p l e { frames := 2, cells := 0, slots := 0, locals := 42 } s m args below meth c H locs 0 0 (MQ below (h_Q D (h_A S0) none z.2) args s 0 0 (h_A S0)) (F0 m 22 ls [.int t0]) := by
  obtain ⟨-, hx, hb, hml, hown, hr, hlk, hK, hts⟩ := id C
  intro S a0 t0 _ _ _ h hV hl
  unfold fX5_copyRest_22 at h
  refine h_istore_n (tl' := [(1, .inl t0), (0, .inr (some a0))]) hx hb dX5_copyRest_22 rfl hl (by decide) rfl (fun ls hl => ?_)
  refine hr_aload_n hx hb dX5_copyRest_23 rfl (hr_at hl 1 rfl) ?_
  obtain ⟨v1, g2, h3⟩ := hbind h; clear h
  refine h_gI hx hb hown hV g2 (flRX5_29 hts hK) dX5_copyRest_24 ?_
  refine hr_aload_n hx hb dX5_copyRest_27 rfl (hr_at hl 1 rfl) ?_
  obtain ⟨v4, g5, h6⟩ := hbind h3; clear h3
  refine h_gI hx hb hown hV g5 (flRX5_51 hts hK) dX5_copyRest_28 ?_
  refine lv_icmp_ge (tgt := 41) hx hb dX5_copyRest_31 (by decide) (fun c7 => ?_) (fun c7 => ?_)
  · rw [if_pos c7] at h6
    refine hr_aload_n hx hb dX5_copyRest_41 rfl (hr_at hl 1 rfl) ?_
    obtain ⟨v8, g9, h10⟩ := hbind h6; clear h6
    refine h_gI hx hb hown hV g9 (flRX5_54 hts hK) dX5_copyRest_42 ?_
    exact kX5_copyRest_45 C fu S a0 t0 v8 _ _ _ h10 hV (hl_sub hl [1, 0] rfl)
  · rw [if_neg c7] at h6
    refine hr_aload_n hx hb dX5_copyRest_34 rfl (hr_at hl 1 rfl) ?_
    obtain ⟨v11, g12, h13⟩ := hbind h6; clear h6
    refine h_gI hx hb hown hV g12 (flRX5_51 hts hK) dX5_copyRest_35 ?_
    refine lv_goto (tgt := 45) hx hb dX5_copyRest_38 (by decide) ?_
    exact kX5_copyRest_45 C fu S a0 t0 v11 _ _ _ h13 hV (hl_sub hl [1, 0] rfl)
def fX5_copyRest (fu : Nat) (S : hS) (a0 : Nat) : Option (Unit × hS) := (gI S 5 7 (some a0)).bind fun v1 => (gI S 5 8 (some a0)).bind fun v4 => if v4 ≤ v1 then ((gI S 5 9 (some a0)).bind fun v8 =>
fX5_copyRest_22 fu S a0 v8) else ((gI S 5 7 (some a0)).bind fun v11 =>
fX5_copyRest_22 fu S a0 v11)
set_option maxHeartbeats 4000000 in
set_option maxRecDepth 100000 in
theorem mX5_copyRest (l : Launch) (D : hD) (fu : Nat) (S : hS) (a0 : Nat) (z : Unit × hS) (h : fX5_copyRest fu S a0 = some z) : hM l D yX5_copyRest cX5_copyRest 3 none 2 42 0 0 [va_rf (some a0)] S none z.2 := by
  refine h_body [.inr (some a0)] RX5 (by decide) rfl (Nat.le_of_ble_eq_true rfl) ?_
  intro p e s m args below meth c C hin ls hV hl
  obtain ⟨-, hx, hb, hml, hown, hr, hlk, hK, hts⟩ := id C
  unfold fX5_copyRest at h
  refine hr_aload_n hx hb dX5_copyRest_0 rfl (hr_at hl 0 rfl) ?_
  obtain ⟨v1, g2, h3⟩ := hbind h; clear h
  refine h_gI hx hb hown hV g2 (flRX5_29 hts hK) dX5_copyRest_1 ?_
  refine hr_aload_n hx hb dX5_copyRest_4 rfl (hr_at hl 0 rfl) ?_
  obtain ⟨v4, g5, h6⟩ := hbind h3; clear h3
  refine h_gI hx hb hown hV g5 (flRX5_51 hts hK) dX5_copyRest_5 ?_
  refine lv_icmp_ge (tgt := 18) hx hb dX5_copyRest_8 (by decide) (fun c7 => ?_) (fun c7 => ?_)
  · rw [if_pos c7] at h6
    refine hr_aload_n hx hb dX5_copyRest_18 rfl (hr_at hl 0 rfl) ?_
    obtain ⟨v8, g9, h10⟩ := hbind h6; clear h6
    refine h_gI hx hb hown hV g9 (flRX5_38 hts hK) dX5_copyRest_19 ?_
    exact kX5_copyRest_22 C fu S a0 v8 _ _ _ h10 hV (hl_sub hl [0] rfl)
  · rw [if_neg c7] at h6
    refine hr_aload_n hx hb dX5_copyRest_11 rfl (hr_at hl 0 rfl) ?_
    obtain ⟨v11, g12, h13⟩ := hbind h6; clear h6
    refine h_gI hx hb hown hV g12 (flRX5_29 hts hK) dX5_copyRest_12 ?_
    refine lv_goto (tgt := 22) hx hb dX5_copyRest_15 (by decide) ?_
    exact kX5_copyRest_22 C fu S a0 v11 _ _ _ h13 hV (hl_sub hl [0] rfl)
def fX5_standAt (fu : Nat) (S : hS) (a0 : Nat) (x1 : Int32) : Option (Unit × hS) := (pV S 5 7 (some a0) (.int x1)).bind fun S1 => (gI S1 5 6 (some a0)).bind fun v4 => (gI S1 5 2 (some a0)).bind fun v7 => (pV S1 5 8 (some a0) (.int (imn (x1 + v4) v7))).bind fun S10 => (gI S10 5 8 (some a0)).bind fun v13 => (pV S10 5 9 (some a0) (.int v13)).bind fun S16 => (gI S16 5 6 (some a0)).bind fun v19 => (gI S16 5 2 (some a0)).bind fun v22 => (pV S16 5 10 (some a0) (.int (imn (x1 + ((2 : Int32) * v19)) v22))).bind fun S25 => (pV S25 5 11 (some a0) (.int x1)).bind fun S28 => some ((), S28)
set_option maxHeartbeats 4000000 in
set_option maxRecDepth 100000 in
theorem mX5_standAt (l : Launch) (D : hD) (fu : Nat) (S : hS) (a0 : Nat) (x1 : Int32) (z : Unit × hS) (h : fX5_standAt fu S a0 x1 = some z) : hM l D yX5_standAt cX5_standAt 2 none 1 14 0 0 [va_rf (some a0), .int x1] S none z.2 := by
  refine h_body [.inr (some a0), .inl x1] RX5 (by decide) rfl (Nat.le_of_ble_eq_true rfl) ?_
  intro p e s m args below meth c C hin ls hV hl
  obtain ⟨-, hx, hb, hml, hown, hr, hlk, hK, hts⟩ := id C
  unfold fX5_standAt at h
  refine hr_aload_n hx hb dX5_standAt_0 rfl (hr_at hl 0 rfl) ?_
  refine lv_iload_n hx hb dX5_standAt_1 rfl (hi_at hl 1 rfl) ?_
  obtain ⟨S1, g2, h3⟩ := hbind h; clear h
  refine h_put hx hb hown hV g2 (fpRX5_29 hts hK) rfl rfl dX5_standAt_2 (fun H locs hV => ?_)
  refine hr_aload_n hx hb dX5_standAt_5 rfl (hr_at hl 0 rfl) ?_
  refine lv_iload_n hx hb dX5_standAt_6 rfl (hi_at hl 1 rfl) ?_
  refine hr_aload_n hx hb dX5_standAt_7 rfl (hr_at hl 0 rfl) ?_
  obtain ⟨v4, g5, h6⟩ := hbind h3; clear h3
  refine h_gI hx hb hown hV g5 (flRX5_13 hts hK) dX5_standAt_8 ?_
  refine lv_iadd hx hb dX5_standAt_11 ?_
  refine hr_aload_n hx hb dX5_standAt_12 rfl (hr_at hl 0 rfl) ?_
  obtain ⟨v7, g8, h9⟩ := hbind h6; clear h6
  refine h_gI hx hb hown hV g8 (flRX5_71 hts hK) dX5_standAt_13 ?_
  refine h_mmin hx hb (hml.trans hl.1.symm) hown hts wd493 wd105 wd80 wd106 (Nat.le_of_ble_eq_true rfl) (hW_okL [.inr (some a0)] (Nat.le_of_ble_eq_true rfl)) (Nat.le_of_ble_eq_true rfl) (Nat.le_of_ble_eq_true rfl) dX5_standAt_16 ?_
  obtain ⟨S10, g11, h12⟩ := hbind h9; clear h9
  refine h_put hx hb hown hV g11 (fpRX5_51 hts hK) rfl rfl dX5_standAt_19 (fun H locs hV => ?_)
  refine hr_aload_n hx hb dX5_standAt_22 rfl (hr_at hl 0 rfl) ?_
  refine hr_aload_n hx hb dX5_standAt_23 rfl (hr_at hl 0 rfl) ?_
  obtain ⟨v13, g14, h15⟩ := hbind h12; clear h12
  refine h_gI hx hb hown hV g14 (flRX5_51 hts hK) dX5_standAt_24 ?_
  obtain ⟨S16, g17, h18⟩ := hbind h15; clear h15
  refine h_put hx hb hown hV g17 (fpRX5_38 hts hK) rfl rfl dX5_standAt_27 (fun H locs hV => ?_)
  refine hr_aload_n hx hb dX5_standAt_30 rfl (hr_at hl 0 rfl) ?_
  refine lv_iload_n hx hb dX5_standAt_31 rfl (hi_at hl 1 rfl) ?_
  refine lv_iconst (v := 2) hx hb dX5_standAt_32 (by decide) ?_
  refine hr_aload_n hx hb dX5_standAt_33 rfl (hr_at hl 0 rfl) ?_
  obtain ⟨v19, g20, h21⟩ := hbind h18; clear h18
  refine h_gI hx hb hown hV g20 (flRX5_13 hts hK) dX5_standAt_34 ?_
  refine lv_imul hx hb dX5_standAt_37 ?_
  refine lv_iadd hx hb dX5_standAt_38 ?_
  refine hr_aload_n hx hb dX5_standAt_39 rfl (hr_at hl 0 rfl) ?_
  obtain ⟨v22, g23, h24⟩ := hbind h21; clear h21
  refine h_gI hx hb hown hV g23 (flRX5_71 hts hK) dX5_standAt_40 ?_
  refine h_mmin hx hb (hml.trans hl.1.symm) hown hts wd493 wd105 wd80 wd106 (Nat.le_of_ble_eq_true rfl) (hW_okL [.inr (some a0)] (Nat.le_of_ble_eq_true rfl)) (Nat.le_of_ble_eq_true rfl) (Nat.le_of_ble_eq_true rfl) dX5_standAt_43 ?_
  obtain ⟨S25, g26, h27⟩ := hbind h24; clear h24
  refine h_put hx hb hown hV g26 (fpRX5_54 hts hK) rfl rfl dX5_standAt_46 (fun H locs hV => ?_)
  refine hr_aload_n hx hb dX5_standAt_49 rfl (hr_at hl 0 rfl) ?_
  refine lv_iload_n hx hb dX5_standAt_50 rfl (hi_at hl 1 rfl) ?_
  obtain ⟨S28, g29, h30⟩ := hbind h27; clear h27
  refine h_put hx hb hown hV g29 (fpRX5_44 hts hK) rfl rfl dX5_standAt_51 (fun H locs hV => ?_)
  exact h_vret hx hb hr hlk hV h30 (Nat.le_of_ble_eq_true rfl) (Nat.le_of_ble_eq_true rfl) dX5_standAt_54
def fX5_endPass_75 (fu : Nat) (S : hS) (a0 : Nat) : Option (Unit × hS) := (zz (1 : Int32)).bind fun _ => (pV S 5 3 (some a0) (.int (1 : Int32))).bind fun S1 => some ((), S1)
set_option maxHeartbeats 4000000 in
set_option maxRecDepth 100000 in
theorem kX5_endPass_75 {p : Program} {l : Launch} {e : Env} {s : State} {m : MethodId} {args : Array Value} {below : List Frame} {meth : Method} {c : Code} {D : hD} {S0 : hS} {z : Unit × hS} (C : hCx p m c cX5_endPass 1 s args RX5 meth none D) (fu : Nat) : ∀ (S : hS) (a0 : Nat) (H : Heap) (locs : List Loc) (ls : Array Slot), fX5_endPass_75 fu S a0 = some z → h_V D (h_A S0) s S H locs → hl_has ls 1 [(0, .inr (some a0))] → W p l e { frames := 2, cells := 0, slots := 0, locals := 42 } s m args below meth c H locs 0 0 (MQ below (h_Q D (h_A S0) none z.2) args s 0 0 (h_A S0)) (F0 m 75 ls []) := by
  obtain ⟨-, hx, hb, hml, hown, hr, hlk, hK, hts⟩ := id C
  intro S a0 _ _ _ h hV hl
  unfold fX5_endPass_75 at h
  refine hr_aload_n hx hb dX5_endPass_75 rfl (hr_at hl 0 rfl) ?_
  refine lv_iconst (v := 1) hx hb dX5_endPass_76 (by decide) ?_
  obtain ⟨v2, g3, h4⟩ := hbind h; clear h
  obtain ⟨S1, g5, h6⟩ := hbind h4; clear h4
  refine h_put hx hb hown hV g5 (fpRX5_90 hts hK) (zz_nar (zz_inv g3).2) (zz_fit (zz_inv g3).2) dX5_endPass_77 (fun H locs hV => ?_)
  exact h_vret hx hb hr hlk hV h6 (Nat.le_of_ble_eq_true rfl) (Nat.le_of_ble_eq_true rfl) dX5_endPass_80
def fX5_endPass_13 (fu : Nat) (S : hS) (a0 : Nat) (t0 : Option Nat) (t1 : Int32) : Option (Unit × hS) := (zz t1).bind fun _ => (pV S 5 5 t0 (.int t1)).bind fun S1 => (gI S1 5 6 (some a0)).bind fun v7 => (pV S1 5 6 (some a0) (.int (v7 * (2 : Int32)))).bind fun S10 => (gI S10 5 6 (some a0)).bind fun v13 => (gI S10 5 2 (some a0)).bind fun v16 => if v16 ≤ v13 then ((gI S10 5 5 (some a0)).bind fun v20 =>
if v20 = 0 then (fX5_endPass_75 fu S10 a0) else ((gR S10 5 0 (some a0)).bind fun v24 =>
(gR S10 5 4 (some a0)).bind fun v27 =>
(gI S10 1 0 v27).bind fun v30 =>
(gR S10 5 1 (some a0)).bind fun v33 =>
(gI S10 1 0 v33).bind fun v36 =>
(gI S10 5 2 (some a0)).bind fun v39 =>
(rcv S10 0 v24).bind fun b44 =>
bn2 (fX0_copy fu S10 b44 v30 v36 v39) fun _ S43 =>
fX5_endPass_75 fu S43 a0)) else ((rcv S10 5 (some a0)).bind fun b52 =>
bn2 (fX5_standAt fu S10 b52 (0 : Int32)) fun _ S51 =>
some ((), S51))
set_option maxHeartbeats 4000000 in
set_option maxRecDepth 100000 in
theorem kX5_endPass_13 {p : Program} {l : Launch} {e : Env} {s : State} {m : MethodId} {args : Array Value} {below : List Frame} {meth : Method} {c : Code} {D : hD} {S0 : hS} {z : Unit × hS} (C : hCx p m c cX5_endPass 1 s args RX5 meth none D) (fu : Nat) : ∀ (S : hS) (a0 : Nat) (t0 : Option Nat) (t1 : Int32) (H : Heap) (locs : List Loc) (ls : Array Slot), fX5_endPass_13 fu S a0 t0 t1 = some z → h_V D (h_A S0) s S H locs → hl_has ls 1 [(0, .inr (some a0))] → W p l e { frames := 2, cells := 0, slots := 0, locals := 42 } s m args below meth c H locs 0 0 (MQ below (h_Q D (h_A S0) none z.2) args s 0 0 (h_A S0)) (F0 m 13 ls [.int t1, va_rf t0]) := by
  obtain ⟨-, hx, hb, hml, hown, hr, hlk, hK, hts⟩ := id C
  intro S a0 t0 t1 _ _ _ h hV hl
  unfold fX5_endPass_13 at h
  obtain ⟨v2, g3, h4⟩ := hbind h; clear h
  obtain ⟨S1, g5, h6⟩ := hbind h4; clear h4
  refine h_put hx hb hown hV g5 (fpRX5_61 hts hK) (zz_nar (zz_inv g3).2) (zz_fit (zz_inv g3).2) dX5_endPass_13 (fun H locs hV => ?_)
  refine hr_aload_n hx hb dX5_endPass_16 rfl (hr_at hl 0 rfl) ?_
  refine hr_dup hx hb dX5_endPass_17 ?_
  obtain ⟨v7, g8, h9⟩ := hbind h6; clear h6
  refine h_gI hx hb hown hV g8 (flRX5_13 hts hK) dX5_endPass_18 ?_
  refine lv_iconst (v := 2) hx hb dX5_endPass_21 (by decide) ?_
  refine lv_imul hx hb dX5_endPass_22 ?_
  obtain ⟨S10, g11, h12⟩ := hbind h9; clear h9
  refine h_put hx hb hown hV g11 (fpRX5_13 hts hK) rfl rfl dX5_endPass_23 (fun H locs hV => ?_)
  refine hr_aload_n hx hb dX5_endPass_26 rfl (hr_at hl 0 rfl) ?_
  obtain ⟨v13, g14, h15⟩ := hbind h12; clear h12
  refine h_gI hx hb hown hV g14 (flRX5_13 hts hK) dX5_endPass_27 ?_
  refine hr_aload_n hx hb dX5_endPass_30 rfl (hr_at hl 0 rfl) ?_
  obtain ⟨v16, g17, h18⟩ := hbind h15; clear h15
  refine h_gI hx hb hown hV g17 (flRX5_71 hts hK) dX5_endPass_31 ?_
  refine lv_icmp_ge (tgt := 43) hx hb dX5_endPass_34 (by decide) (fun c19 => ?_) (fun c19 => ?_)
  · rw [if_pos c19] at h18
    refine hr_aload_n hx hb dX5_endPass_43 rfl (hr_at hl 0 rfl) ?_
    obtain ⟨v20, g21, h22⟩ := hbind h18; clear h18
    refine h_gI hx hb hown hV g21 (flRX5_61 hts hK) dX5_endPass_44 ?_
    refine lv_if_eq (tgt := 75) hx hb dX5_endPass_47 (by decide) (fun c23 => ?_) (fun c23 => ?_)
    · rw [if_pos c23] at h22
      exact kX5_endPass_75 C fu S10 a0 _ _ _ h22 hV (hl_sub hl [0] rfl)
    · rw [if_neg c23] at h22
      refine hr_aload_n hx hb dX5_endPass_50 rfl (hr_at hl 0 rfl) ?_
      obtain ⟨v24, g25, h26⟩ := hbind h22; clear h22
      refine h_gR hx hb hown hV g25 (flRX5_21 hts hK) dX5_endPass_51 ?_
      refine hr_aload_n hx hb dX5_endPass_54 rfl (hr_at hl 0 rfl) ?_
      obtain ⟨v27, g28, h29⟩ := hbind h26; clear h26
      refine h_gR hx hb hown hV g28 (flRX5_7 hts hK) dX5_endPass_55 ?_
      obtain ⟨v30, g31, h32⟩ := hbind h29; clear h29
      refine h_gI hx hb hown hV g31 (flRX5_65 hts hK) dX5_endPass_58 ?_
      refine hr_aload_n hx hb dX5_endPass_61 rfl (hr_at hl 0 rfl) ?_
      obtain ⟨v33, g34, h35⟩ := hbind h32; clear h32
      refine h_gR hx hb hown hV g34 (flRX5_68 hts hK) dX5_endPass_62 ?_
      obtain ⟨v36, g37, h38⟩ := hbind h35; clear h35
      refine h_gI hx hb hown hV g37 (flRX5_65 hts hK) dX5_endPass_65 ?_
      refine hr_aload_n hx hb dX5_endPass_68 rfl (hr_at hl 0 rfl) ?_
      obtain ⟨v39, g40, h41⟩ := hbind h38; clear h38
      refine h_gI hx hb hown hV g40 (flRX5_71 hts hK) dX5_endPass_69 ?_
      obtain ⟨b44, g45, h46⟩ := hbind h41; clear h41
      obtain ⟨_, _, e47, q47⟩ := rcv_inv g45
      obtain ⟨r42, S43, g48, h49⟩ := hbn2 h46; clear h46
      refine h_callVN (n := 3) (As := [.int v30, .int v36, .int v39]) (rest := []) (st1 := []) (fr := 1) (lo := 18) (mc := 0) (ms := 0) C.1 hK hV q47 rfl rfl wd314 (wo592 hK.2) wd313 wd13 wd79 ⟨by decide, by decide, by decide⟩ ⟨(Nat.le_of_ble_eq_true rfl), (Nat.le_of_ble_eq_true rfl)⟩ rfl hl.1 (hW_ok [] (Nat.le_of_ble_eq_true rfl)) dX5_endPass_72 ⟨(Nat.le_of_ble_eq_true rfl), (Nat.le_of_ble_eq_true rfl)⟩ rfl (by rw [e47]; rfl) (mX0_copy l D fu S10 b44 v30 v36 v39 _ g48) (fun H locs hV => ?_)
      exact kX5_endPass_75 C fu S43 a0 _ _ _ h49 hV (hl_sub hl [0] rfl)
  · rw [if_neg c19] at h18
    refine hr_aload_n hx hb dX5_endPass_37 rfl (hr_at hl 0 rfl) ?_
    refine lv_iconst (v := 0) hx hb dX5_endPass_38 (by decide) ?_
    obtain ⟨b52, g53, h54⟩ := hbind h18; clear h18
    obtain ⟨_, _, e55, q55⟩ := rcv_inv g53
    obtain ⟨r50, S51, g56, h57⟩ := hbn2 h54; clear h54
    refine h_callV (n := 1) (As := [.int (0 : Int32)]) (rest := []) (st1 := []) (fr := 1) (lo := 14) (mc := 0) (ms := 0) C.1 hK hV q55 rfl rfl wd492 wd489 wd491 wd16 wd88 ⟨by decide, by decide, by decide⟩ ⟨(Nat.le_of_ble_eq_true rfl), (Nat.le_of_ble_eq_true rfl)⟩ rfl hl.1 (hW_ok [] (Nat.le_of_ble_eq_true rfl)) dX5_endPass_39 ⟨(Nat.le_of_ble_eq_true rfl), (Nat.le_of_ble_eq_true rfl)⟩ rfl (by rw [e55]; rfl) (mX5_standAt l D fu S10 b52 (0 : Int32) _ g56) (fun H locs hV => ?_)
    exact h_vret hx hb hr hlk hV h57 (Nat.le_of_ble_eq_true rfl) (Nat.le_of_ble_eq_true rfl) dX5_endPass_42
def fX5_endPass (fu : Nat) (S : hS) (a0 : Nat) : Option (Unit × hS) := (gI S 5 5 (some a0)).bind fun v1 => if v1 = 0 then (fX5_endPass_13 fu S a0 (some a0) (1 : Int32)) else (fX5_endPass_13 fu S a0 (some a0) (0 : Int32))
set_option maxHeartbeats 4000000 in
set_option maxRecDepth 100000 in
theorem mX5_endPass (l : Launch) (D : hD) (fu : Nat) (S : hS) (a0 : Nat) (z : Unit × hS) (h : fX5_endPass fu S a0 = some z) : hM l D yX5_endPass cX5_endPass 1 none 2 42 0 0 [va_rf (some a0)] S none z.2 := by
  refine h_body [.inr (some a0)] RX5 (by decide) rfl (Nat.le_of_ble_eq_true rfl) ?_
  intro p e s m args below meth c C hin ls hV hl
  obtain ⟨-, hx, hb, hml, hown, hr, hlk, hK, hts⟩ := id C
  unfold fX5_endPass at h
  refine hr_aload_n hx hb dX5_endPass_0 rfl (hr_at hl 0 rfl) ?_
  refine hr_aload_n hx hb dX5_endPass_1 rfl (hr_at hl 0 rfl) ?_
  obtain ⟨v1, g2, h3⟩ := hbind h; clear h
  refine h_gI hx hb hown hV g2 (flRX5_61 hts hK) dX5_endPass_2 ?_
  refine lv_if_ne (tgt := 12) hx hb dX5_endPass_5 (by decide) (fun c4 => ?_) (fun c4 => ?_)
  · rw [if_neg c4] at h3
    refine lv_iconst (v := 0) hx hb dX5_endPass_12 (by decide) ?_
    exact kX5_endPass_13 C fu S a0 (some a0) (0 : Int32) _ _ _ h3 hV (hl_sub hl [0] rfl)
  · rw [if_pos c4] at h3
    refine lv_iconst (v := 1) hx hb dX5_endPass_8 (by decide) ?_
    refine lv_goto (tgt := 13) hx hb dX5_endPass_9 (by decide) ?_
    exact kX5_endPass_13 C fu S a0 (some a0) (1 : Int32) _ _ _ h3 hV (hl_sub hl [0] rfl)
def fX5_goOnWithNextRows (fu : Nat) (S : hS) (a0 : Nat) : Option (Unit × hS) := (rcv S 5 (some a0)).bind fun b3 => bn2 (fX5_copyRest fu S b3) fun _ S2 => (gI S2 5 10 (some a0)).bind fun v9 => (rcv S2 5 (some a0)).bind fun b14 => bn2 (fX5_standAt fu S2 b14 v9) fun _ S13 => (gI S13 5 9 (some a0)).bind fun v20 => (gI S13 5 10 (some a0)).bind fun v23 => if v20 < v23 then (some ((), S13)) else ((rcv S13 5 (some a0)).bind fun b29 =>
bn2 (fX5_copyRest fu S13 b29) fun _ S28 =>
(rcv S28 5 (some a0)).bind fun b37 =>
bn2 (fX5_endPass fu S28 b37) fun _ S36 =>
some ((), S36))
set_option maxHeartbeats 4000000 in
set_option maxRecDepth 100000 in
theorem mX5_goOnWithNextRows (l : Launch) (D : hD) (fu : Nat) (S : hS) (a0 : Nat) (z : Unit × hS) (h : fX5_goOnWithNextRows fu S a0 = some z) : hM l D yX5_goOnWithNextRows cX5_goOnWithNextRows 1 none 3 64 0 0 [va_rf (some a0)] S none z.2 := by
  refine h_body [.inr (some a0)] RX5 (by decide) rfl (Nat.le_of_ble_eq_true rfl) ?_
  intro p e s m args below meth c C hin ls hV hl
  obtain ⟨-, hx, hb, hml, hown, hr, hlk, hK, hts⟩ := id C
  unfold fX5_goOnWithNextRows at h
  refine hr_aload_n hx hb dX5_goOnWithNextRows_0 rfl (hr_at hl 0 rfl) ?_
  obtain ⟨b3, g4, h5⟩ := hbind h; clear h
  obtain ⟨_, _, e6, q6⟩ := rcv_inv g4
  obtain ⟨r1, S2, g7, h8⟩ := hbn2 h5; clear h5
  refine h_callV (n := 0) (As := []) (rest := []) (st1 := []) (fr := 2) (lo := 42) (mc := 0) (ms := 0) C.1 hK hV q6 rfl rfl wd591 wd588 wd590 wd30 wd88 ⟨by decide, by decide, by decide⟩ ⟨(Nat.le_of_ble_eq_true rfl), (Nat.le_of_ble_eq_true rfl)⟩ rfl hl.1 (hW_ok [] (Nat.le_of_ble_eq_true rfl)) dX5_goOnWithNextRows_1 ⟨(Nat.le_of_ble_eq_true rfl), (Nat.le_of_ble_eq_true rfl)⟩ rfl (by rw [e6]; rfl) (mX5_copyRest l D fu S b3 _ g7) (fun H locs hV => ?_)
  refine hr_aload_n hx hb dX5_goOnWithNextRows_4 rfl (hr_at hl 0 rfl) ?_
  refine hr_aload_n hx hb dX5_goOnWithNextRows_5 rfl (hr_at hl 0 rfl) ?_
  obtain ⟨v9, g10, h11⟩ := hbind h8; clear h8
  refine h_gI hx hb hown hV g10 (flRX5_54 hts hK) dX5_goOnWithNextRows_6 ?_
  obtain ⟨b14, g15, h16⟩ := hbind h11; clear h11
  obtain ⟨_, _, e17, q17⟩ := rcv_inv g15
  obtain ⟨r12, S13, g18, h19⟩ := hbn2 h16; clear h16
  refine h_callV (n := 1) (As := [.int v9]) (rest := []) (st1 := []) (fr := 1) (lo := 14) (mc := 0) (ms := 0) C.1 hK hV q17 rfl rfl wd492 wd489 wd491 wd16 wd88 ⟨by decide, by decide, by decide⟩ ⟨(Nat.le_of_ble_eq_true rfl), (Nat.le_of_ble_eq_true rfl)⟩ rfl hl.1 (hW_ok [] (Nat.le_of_ble_eq_true rfl)) dX5_goOnWithNextRows_9 ⟨(Nat.le_of_ble_eq_true rfl), (Nat.le_of_ble_eq_true rfl)⟩ rfl (by rw [e17]; rfl) (mX5_standAt l D fu S2 b14 v9 _ g18) (fun H locs hV => ?_)
  refine hr_aload_n hx hb dX5_goOnWithNextRows_12 rfl (hr_at hl 0 rfl) ?_
  obtain ⟨v20, g21, h22⟩ := hbind h19; clear h19
  refine h_gI hx hb hown hV g21 (flRX5_38 hts hK) dX5_goOnWithNextRows_13 ?_
  refine hr_aload_n hx hb dX5_goOnWithNextRows_16 rfl (hr_at hl 0 rfl) ?_
  obtain ⟨v23, g24, h25⟩ := hbind h22; clear h22
  refine h_gI hx hb hown hV g24 (flRX5_54 hts hK) dX5_goOnWithNextRows_17 ?_
  refine lv_icmp_lt (tgt := 31) hx hb dX5_goOnWithNextRows_20 (by decide) (fun c26 => ?_) (fun c26 => ?_)
  · rw [if_pos c26] at h25
    exact h_vret hx hb hr hlk hV h25 (Nat.le_of_ble_eq_true rfl) (Nat.le_of_ble_eq_true rfl) dX5_goOnWithNextRows_31
  · rw [if_neg c26] at h25
    refine hr_aload_n hx hb dX5_goOnWithNextRows_23 rfl (hr_at hl 0 rfl) ?_
    obtain ⟨b29, g30, h31⟩ := hbind h25; clear h25
    obtain ⟨_, _, e32, q32⟩ := rcv_inv g30
    obtain ⟨r27, S28, g33, h34⟩ := hbn2 h31; clear h31
    refine h_callV (n := 0) (As := []) (rest := []) (st1 := []) (fr := 2) (lo := 42) (mc := 0) (ms := 0) C.1 hK hV q32 rfl rfl wd591 wd588 wd590 wd30 wd88 ⟨by decide, by decide, by decide⟩ ⟨(Nat.le_of_ble_eq_true rfl), (Nat.le_of_ble_eq_true rfl)⟩ rfl hl.1 (hW_ok [] (Nat.le_of_ble_eq_true rfl)) dX5_goOnWithNextRows_24 ⟨(Nat.le_of_ble_eq_true rfl), (Nat.le_of_ble_eq_true rfl)⟩ rfl (by rw [e32]; rfl) (mX5_copyRest l D fu S13 b29 _ g33) (fun H locs hV => ?_)
    refine hr_aload_n hx hb dX5_goOnWithNextRows_27 rfl (hr_at hl 0 rfl) ?_
    obtain ⟨b37, g38, h39⟩ := hbind h34; clear h34
    obtain ⟨_, _, e40, q40⟩ := rcv_inv g38
    obtain ⟨r35, S36, g41, h42⟩ := hbn2 h39; clear h39
    refine h_callV (n := 0) (As := []) (rest := []) (st1 := []) (fr := 2) (lo := 42) (mc := 0) (ms := 0) C.1 hK hV q40 rfl rfl wd596 wd593 wd595 wd31 wd88 ⟨by decide, by decide, by decide⟩ ⟨(Nat.le_of_ble_eq_true rfl), (Nat.le_of_ble_eq_true rfl)⟩ rfl hl.1 (hW_ok [] (Nat.le_of_ble_eq_true rfl)) dX5_goOnWithNextRows_28 ⟨(Nat.le_of_ble_eq_true rfl), (Nat.le_of_ble_eq_true rfl)⟩ rfl (by rw [e40]; rfl) (mX5_endPass l D fu S28 b37 _ g41) (fun H locs hV => ?_)
    exact h_vret hx hb hr hlk hV h42 (Nat.le_of_ble_eq_true rfl) (Nat.le_of_ble_eq_true rfl) dX5_goOnWithNextRows_31
def fX5_compareNext_128 (fu : Nat) (S : hS) (a0 : Nat) : Option (Unit × hS) := (rcv S 5 (some a0)).bind fun b3 => bn2 (fX5_goOnWithNextRows fu S b3) fun _ S2 => some ((), S2)
set_option maxHeartbeats 4000000 in
set_option maxRecDepth 100000 in
theorem kX5_compareNext_128 {p : Program} {l : Launch} {e : Env} {s : State} {m : MethodId} {args : Array Value} {below : List Frame} {meth : Method} {c : Code} {D : hD} {S0 : hS} {z : Unit × hS} (C : hCx p m c cX5_compareNext 3 s args RX5 meth none D) (fu : Nat) : ∀ (S : hS) (a0 : Nat) (H : Heap) (locs : List Loc) (ls : Array Slot), fX5_compareNext_128 fu S a0 = some z → h_V D (h_A S0) s S H locs → hl_has ls 3 [(0, .inr (some a0))] → W p l e { frames := 4, cells := 0, slots := 0, locals := 84 } s m args below meth c H locs 0 0 (MQ below (h_Q D (h_A S0) none z.2) args s 0 0 (h_A S0)) (F0 m 128 ls []) := by
  obtain ⟨-, hx, hb, hml, hown, hr, hlk, hK, hts⟩ := id C
  intro S a0 _ _ _ h hV hl
  unfold fX5_compareNext_128 at h
  refine hr_aload_n hx hb dX5_compareNext_128 rfl (hr_at hl 0 rfl) ?_
  obtain ⟨b3, g4, h5⟩ := hbind h; clear h
  obtain ⟨_, _, e6, q6⟩ := rcv_inv g4
  obtain ⟨r1, S2, g7, h8⟩ := hbn2 h5; clear h5
  refine h_callV (n := 0) (As := []) (rest := []) (st1 := []) (fr := 3) (lo := 64) (mc := 0) (ms := 0) C.1 hK hV q6 rfl rfl wd587 wd584 wd586 wd29 wd88 ⟨by decide, by decide, by decide⟩ ⟨(Nat.le_of_ble_eq_true rfl), (Nat.le_of_ble_eq_true rfl)⟩ rfl hl.1 (hW_ok [] (Nat.le_of_ble_eq_true rfl)) dX5_compareNext_129 ⟨(Nat.le_of_ble_eq_true rfl), (Nat.le_of_ble_eq_true rfl)⟩ rfl (by rw [e6]; rfl) (mX5_goOnWithNextRows l D fu S b3 _ g7) (fun H locs hV => ?_)
  exact h_vret hx hb hr hlk hV h8 (Nat.le_of_ble_eq_true rfl) (Nat.le_of_ble_eq_true rfl) dX5_compareNext_132
def fX5_compareNext_96 (fu : Nat) (S : hS) (a0 : Nat) : Option (Unit × hS) := (gI S 5 11 (some a0)).bind fun v1 => (pV S 5 11 (some a0) (.int (v1 + (1 : Int32)))).bind fun S4 => (gI S4 5 7 (some a0)).bind fun v7 => (gI S4 5 8 (some a0)).bind fun v10 => if v10 ≤ v7 then (fX5_compareNext_128 fu S4 a0) else ((gI S4 5 9 (some a0)).bind fun v14 =>
(gI S4 5 10 (some a0)).bind fun v17 =>
if v14 < v17 then (some ((), S4)) else (fX5_compareNext_128 fu S4 a0))
set_option maxHeartbeats 4000000 in
set_option maxRecDepth 100000 in
theorem kX5_compareNext_96 {p : Program} {l : Launch} {e : Env} {s : State} {m : MethodId} {args : Array Value} {below : List Frame} {meth : Method} {c : Code} {D : hD} {S0 : hS} {z : Unit × hS} (C : hCx p m c cX5_compareNext 3 s args RX5 meth none D) (fu : Nat) : ∀ (S : hS) (a0 : Nat) (H : Heap) (locs : List Loc) (ls : Array Slot), fX5_compareNext_96 fu S a0 = some z → h_V D (h_A S0) s S H locs → hl_has ls 3 [(0, .inr (some a0))] → W p l e { frames := 4, cells := 0, slots := 0, locals := 84 } s m args below meth c H locs 0 0 (MQ below (h_Q D (h_A S0) none z.2) args s 0 0 (h_A S0)) (F0 m 96 ls []) := by
  obtain ⟨-, hx, hb, hml, hown, hr, hlk, hK, hts⟩ := id C
  intro S a0 _ _ _ h hV hl
  unfold fX5_compareNext_96 at h
  refine hr_aload_n hx hb dX5_compareNext_96 rfl (hr_at hl 0 rfl) ?_
  refine hr_dup hx hb dX5_compareNext_97 ?_
  obtain ⟨v1, g2, h3⟩ := hbind h; clear h
  refine h_gI hx hb hown hV g2 (flRX5_44 hts hK) dX5_compareNext_98 ?_
  refine lv_iconst (v := 1) hx hb dX5_compareNext_101 (by decide) ?_
  refine lv_iadd hx hb dX5_compareNext_102 ?_
  obtain ⟨S4, g5, h6⟩ := hbind h3; clear h3
  refine h_put hx hb hown hV g5 (fpRX5_44 hts hK) rfl rfl dX5_compareNext_103 (fun H locs hV => ?_)
  refine hr_aload_n hx hb dX5_compareNext_106 rfl (hr_at hl 0 rfl) ?_
  obtain ⟨v7, g8, h9⟩ := hbind h6; clear h6
  refine h_gI hx hb hown hV g8 (flRX5_29 hts hK) dX5_compareNext_107 ?_
  refine hr_aload_n hx hb dX5_compareNext_110 rfl (hr_at hl 0 rfl) ?_
  obtain ⟨v10, g11, h12⟩ := hbind h9; clear h9
  refine h_gI hx hb hown hV g11 (flRX5_51 hts hK) dX5_compareNext_111 ?_
  refine lv_icmp_ge (tgt := 128) hx hb dX5_compareNext_114 (by decide) (fun c13 => ?_) (fun c13 => ?_)
  · rw [if_pos c13] at h12
    exact kX5_compareNext_128 C fu S4 a0 _ _ _ h12 hV (hl_sub hl [0] rfl)
  · rw [if_neg c13] at h12
    refine hr_aload_n hx hb dX5_compareNext_117 rfl (hr_at hl 0 rfl) ?_
    obtain ⟨v14, g15, h16⟩ := hbind h12; clear h12
    refine h_gI hx hb hown hV g15 (flRX5_38 hts hK) dX5_compareNext_118 ?_
    refine hr_aload_n hx hb dX5_compareNext_121 rfl (hr_at hl 0 rfl) ?_
    obtain ⟨v17, g18, h19⟩ := hbind h16; clear h16
    refine h_gI hx hb hown hV g18 (flRX5_54 hts hK) dX5_compareNext_122 ?_
    refine lv_icmp_lt (tgt := 132) hx hb dX5_compareNext_125 (by decide) (fun c20 => ?_) (fun c20 => ?_)
    · rw [if_pos c20] at h19
      exact h_vret hx hb hr hlk hV h19 (Nat.le_of_ble_eq_true rfl) (Nat.le_of_ble_eq_true rfl) dX5_compareNext_132
    · rw [if_neg c20] at h19
      exact kX5_compareNext_128 C fu S4 a0 _ _ _ h19 hV (hl_sub hl [0] rfl)
def fX5_compareNext (fu : Nat) (S : hS) (a0 : Nat) : Option (Unit × hS) := (gR S 5 0 (some a0)).bind fun v1 => (rcv S 5 (some a0)).bind fun b6 => bn2 (fX5_from fu S b6) fun r4 S5 => (gI S5 5 7 (some a0)).bind fun v12 => (rcv S5 0 v1).bind fun b17 => bn2 (fX0_read fu S5 b17 (r4 + v12)) fun r15 S16 => (gR S16 5 0 (some a0)).bind fun v23 => (rcv S16 5 (some a0)).bind fun b28 => bn2 (fX5_from fu S16 b28) fun r26 S27 => (gI S27 5 9 (some a0)).bind fun v34 => (rcv S27 0 v23).bind fun b39 => bn2 (fX0_read fu S27 b39 (r26 + v34)) fun r37 S38 => if r37 < r15 then ((gR S38 5 0 (some a0)).bind fun v46 =>
(rcv S38 5 (some a0)).bind fun b51 =>
bn2 (fX5_to fu S38 b51) fun r49 S50 =>
(gI S50 5 11 (some a0)).bind fun v57 =>
(rcv S50 0 v46).bind fun b62 =>
bn2 (fX0_write fu S50 b62 (r49 + v57) r37) fun _ S61 =>
(gI S61 5 9 (some a0)).bind fun v68 =>
(pV S61 5 9 (some a0) (.int (v68 + (1 : Int32)))).bind fun S71 =>
fX5_compareNext_96 fu S71 a0) else ((gR S38 5 0 (some a0)).bind fun v74 =>
(rcv S38 5 (some a0)).bind fun b79 =>
bn2 (fX5_to fu S38 b79) fun r77 S78 =>
(gI S78 5 11 (some a0)).bind fun v85 =>
(rcv S78 0 v74).bind fun b90 =>
bn2 (fX0_write fu S78 b90 (r77 + v85) r15) fun _ S89 =>
(gI S89 5 7 (some a0)).bind fun v96 =>
(pV S89 5 7 (some a0) (.int (v96 + (1 : Int32)))).bind fun S99 =>
fX5_compareNext_96 fu S99 a0)
set_option maxHeartbeats 4000000 in
set_option maxRecDepth 100000 in
theorem mX5_compareNext (l : Launch) (D : hD) (fu : Nat) (S : hS) (a0 : Nat) (z : Unit × hS) (h : fX5_compareNext fu S a0 = some z) : hM l D yX5_compareNext cX5_compareNext 3 none 4 84 0 0 [va_rf (some a0)] S none z.2 := by
  refine h_body [.inr (some a0)] RX5 (by decide) rfl (Nat.le_of_ble_eq_true rfl) ?_
  intro p e s m args below meth c C hin ls hV hl
  obtain ⟨-, hx, hb, hml, hown, hr, hlk, hK, hts⟩ := id C
  unfold fX5_compareNext at h
  refine hr_aload_n hx hb dX5_compareNext_0 rfl (hr_at hl 0 rfl) ?_
  obtain ⟨v1, g2, h3⟩ := hbind h; clear h
  refine h_gR hx hb hown hV g2 (flRX5_21 hts hK) dX5_compareNext_1 ?_
  refine hr_aload_n hx hb dX5_compareNext_4 rfl (hr_at hl 0 rfl) ?_
  obtain ⟨b6, g7, h8⟩ := hbind h3; clear h3
  obtain ⟨_, _, e9, q9⟩ := rcv_inv g7
  obtain ⟨r4, S5, g10, h11⟩ := hbn2 h8; clear h8
  refine h_callV (n := 0) (As := []) (rest := [va_rf v1]) (st1 := [.int r4, va_rf v1]) (fr := 0) (lo := 0) (mc := 0) (ms := 0) C.1 hK hV q9 rfl rfl wd577 wd574 wd576 wd27 wd88 ⟨by decide, by decide, by decide⟩ ⟨(Nat.le_of_ble_eq_true rfl), (Nat.le_of_ble_eq_true rfl)⟩ rfl hl.1 (hW_ok [.inr v1] (Nat.le_of_ble_eq_true rfl)) dX5_compareNext_5 ⟨(Nat.le_of_ble_eq_true rfl), (Nat.le_of_ble_eq_true rfl)⟩ rfl (by rw [e9]; rfl) (mX5_from l D fu S b6 _ g10) (fun H locs hV => ?_)
  refine hr_aload_n hx hb dX5_compareNext_8 rfl (hr_at hl 0 rfl) ?_
  obtain ⟨v12, g13, h14⟩ := hbind h11; clear h11
  refine h_gI hx hb hown hV g13 (flRX5_29 hts hK) dX5_compareNext_9 ?_
  refine lv_iadd hx hb dX5_compareNext_12 ?_
  obtain ⟨b17, g18, h19⟩ := hbind h14; clear h14
  obtain ⟨_, _, e20, q20⟩ := rcv_inv g18
  obtain ⟨r15, S16, g21, h22⟩ := hbn2 h19; clear h19
  refine h_callVN (n := 1) (As := [.int (r4 + v12)]) (rest := []) (st1 := [.int r15]) (fr := 0) (lo := 0) (mc := 0) (ms := 0) C.1 hK hV q20 rfl rfl wd550 (wo578 hK.2) wd549 wd24 wd79 ⟨by decide, by decide, by decide⟩ ⟨(Nat.le_of_ble_eq_true rfl), (Nat.le_of_ble_eq_true rfl)⟩ rfl hl.1 (hW_ok [] (Nat.le_of_ble_eq_true rfl)) dX5_compareNext_13 ⟨(Nat.le_of_ble_eq_true rfl), (Nat.le_of_ble_eq_true rfl)⟩ rfl (by rw [e20]; rfl) (mX0_read l D fu S5 b17 (r4 + v12) _ g21) (fun H locs hV => ?_)
  refine h_istore_n (tl' := [(1, .inl r15), (0, .inr (some a0))]) hx hb dX5_compareNext_16 rfl hl (by decide) rfl (fun ls hl => ?_)
  refine hr_aload_n hx hb dX5_compareNext_17 rfl (hr_at hl 1 rfl) ?_
  obtain ⟨v23, g24, h25⟩ := hbind h22; clear h22
  refine h_gR hx hb hown hV g24 (flRX5_21 hts hK) dX5_compareNext_18 ?_
  refine hr_aload_n hx hb dX5_compareNext_21 rfl (hr_at hl 1 rfl) ?_
  obtain ⟨b28, g29, h30⟩ := hbind h25; clear h25
  obtain ⟨_, _, e31, q31⟩ := rcv_inv g29
  obtain ⟨r26, S27, g32, h33⟩ := hbn2 h30; clear h30
  refine h_callV (n := 0) (As := []) (rest := [va_rf v23]) (st1 := [.int r26, va_rf v23]) (fr := 0) (lo := 0) (mc := 0) (ms := 0) C.1 hK hV q31 rfl rfl wd577 wd574 wd576 wd27 wd88 ⟨by decide, by decide, by decide⟩ ⟨(Nat.le_of_ble_eq_true rfl), (Nat.le_of_ble_eq_true rfl)⟩ rfl hl.1 (hW_ok [.inr v23] (Nat.le_of_ble_eq_true rfl)) dX5_compareNext_22 ⟨(Nat.le_of_ble_eq_true rfl), (Nat.le_of_ble_eq_true rfl)⟩ rfl (by rw [e31]; rfl) (mX5_from l D fu S16 b28 _ g32) (fun H locs hV => ?_)
  refine hr_aload_n hx hb dX5_compareNext_25 rfl (hr_at hl 1 rfl) ?_
  obtain ⟨v34, g35, h36⟩ := hbind h33; clear h33
  refine h_gI hx hb hown hV g35 (flRX5_38 hts hK) dX5_compareNext_26 ?_
  refine lv_iadd hx hb dX5_compareNext_29 ?_
  obtain ⟨b39, g40, h41⟩ := hbind h36; clear h36
  obtain ⟨_, _, e42, q42⟩ := rcv_inv g40
  obtain ⟨r37, S38, g43, h44⟩ := hbn2 h41; clear h41
  refine h_callVN (n := 1) (As := [.int (r26 + v34)]) (rest := []) (st1 := [.int r37]) (fr := 0) (lo := 0) (mc := 0) (ms := 0) C.1 hK hV q42 rfl rfl wd550 (wo578 hK.2) wd549 wd24 wd79 ⟨by decide, by decide, by decide⟩ ⟨(Nat.le_of_ble_eq_true rfl), (Nat.le_of_ble_eq_true rfl)⟩ rfl hl.1 (hW_ok [] (Nat.le_of_ble_eq_true rfl)) dX5_compareNext_30 ⟨(Nat.le_of_ble_eq_true rfl), (Nat.le_of_ble_eq_true rfl)⟩ rfl (by rw [e42]; rfl) (mX0_read l D fu S27 b39 (r26 + v34) _ g43) (fun H locs hV => ?_)
  refine h_istore_n (tl' := [(2, .inl r37), (1, .inl r15), (0, .inr (some a0))]) hx hb dX5_compareNext_33 rfl hl (by decide) rfl (fun ls hl => ?_)
  refine lv_iload_n hx hb dX5_compareNext_34 rfl (hi_at hl 1 rfl) ?_
  refine lv_iload_n hx hb dX5_compareNext_35 rfl (hi_at hl 0 rfl) ?_
  refine lv_icmp_gt (tgt := 69) hx hb dX5_compareNext_36 (by decide) (fun c45 => ?_) (fun c45 => ?_)
  · rw [if_pos c45] at h44
    refine hr_aload_n hx hb dX5_compareNext_69 rfl (hr_at hl 2 rfl) ?_
    obtain ⟨v46, g47, h48⟩ := hbind h44; clear h44
    refine h_gR hx hb hown hV g47 (flRX5_21 hts hK) dX5_compareNext_70 ?_
    refine hr_aload_n hx hb dX5_compareNext_73 rfl (hr_at hl 2 rfl) ?_
    obtain ⟨b51, g52, h53⟩ := hbind h48; clear h48
    obtain ⟨_, _, e54, q54⟩ := rcv_inv g52
    obtain ⟨r49, S50, g55, h56⟩ := hbn2 h53; clear h53
    refine h_callV (n := 0) (As := []) (rest := [va_rf v46]) (st1 := [.int r49, va_rf v46]) (fr := 0) (lo := 0) (mc := 0) (ms := 0) C.1 hK hV q54 rfl rfl wd582 wd579 wd581 wd28 wd88 ⟨by decide, by decide, by decide⟩ ⟨(Nat.le_of_ble_eq_true rfl), (Nat.le_of_ble_eq_true rfl)⟩ rfl hl.1 (hW_ok [.inr v46] (Nat.le_of_ble_eq_true rfl)) dX5_compareNext_74 ⟨(Nat.le_of_ble_eq_true rfl), (Nat.le_of_ble_eq_true rfl)⟩ rfl (by rw [e54]; rfl) (mX5_to l D fu S38 b51 _ g55) (fun H locs hV => ?_)
    refine hr_aload_n hx hb dX5_compareNext_77 rfl (hr_at hl 2 rfl) ?_
    obtain ⟨v57, g58, h59⟩ := hbind h56; clear h56
    refine h_gI hx hb hown hV g58 (flRX5_44 hts hK) dX5_compareNext_78 ?_
    refine lv_iadd hx hb dX5_compareNext_81 ?_
    refine lv_iload_n hx hb dX5_compareNext_82 rfl (hi_at hl 0 rfl) ?_
    obtain ⟨b62, g63, h64⟩ := hbind h59; clear h59
    obtain ⟨_, _, e65, q65⟩ := rcv_inv g63
    obtain ⟨r60, S61, g66, h67⟩ := hbn2 h64; clear h64
    refine h_callVN (n := 2) (As := [.int (r49 + v57), .int r37]) (rest := []) (st1 := []) (fr := 0) (lo := 0) (mc := 0) (ms := 0) C.1 hK hV q65 rfl rfl wd285 (wo583 hK.2) wd284 wd8 wd79 ⟨by decide, by decide, by decide⟩ ⟨(Nat.le_of_ble_eq_true rfl), (Nat.le_of_ble_eq_true rfl)⟩ rfl hl.1 (hW_ok [] (Nat.le_of_ble_eq_true rfl)) dX5_compareNext_83 ⟨(Nat.le_of_ble_eq_true rfl), (Nat.le_of_ble_eq_true rfl)⟩ rfl (by rw [e65]; rfl) (mX0_write l D fu S50 b62 (r49 + v57) r37 _ g66) (fun H locs hV => ?_)
    refine hr_aload_n hx hb dX5_compareNext_86 rfl (hr_at hl 2 rfl) ?_
    refine hr_dup hx hb dX5_compareNext_87 ?_
    obtain ⟨v68, g69, h70⟩ := hbind h67; clear h67
    refine h_gI hx hb hown hV g69 (flRX5_38 hts hK) dX5_compareNext_88 ?_
    refine lv_iconst (v := 1) hx hb dX5_compareNext_91 (by decide) ?_
    refine lv_iadd hx hb dX5_compareNext_92 ?_
    obtain ⟨S71, g72, h73⟩ := hbind h70; clear h70
    refine h_put hx hb hown hV g72 (fpRX5_38 hts hK) rfl rfl dX5_compareNext_93 (fun H locs hV => ?_)
    exact kX5_compareNext_96 C fu S71 a0 _ _ _ h73 hV (hl_sub hl [2] rfl)
  · rw [if_neg c45] at h44
    refine hr_aload_n hx hb dX5_compareNext_39 rfl (hr_at hl 2 rfl) ?_
    obtain ⟨v74, g75, h76⟩ := hbind h44; clear h44
    refine h_gR hx hb hown hV g75 (flRX5_21 hts hK) dX5_compareNext_40 ?_
    refine hr_aload_n hx hb dX5_compareNext_43 rfl (hr_at hl 2 rfl) ?_
    obtain ⟨b79, g80, h81⟩ := hbind h76; clear h76
    obtain ⟨_, _, e82, q82⟩ := rcv_inv g80
    obtain ⟨r77, S78, g83, h84⟩ := hbn2 h81; clear h81
    refine h_callV (n := 0) (As := []) (rest := [va_rf v74]) (st1 := [.int r77, va_rf v74]) (fr := 0) (lo := 0) (mc := 0) (ms := 0) C.1 hK hV q82 rfl rfl wd582 wd579 wd581 wd28 wd88 ⟨by decide, by decide, by decide⟩ ⟨(Nat.le_of_ble_eq_true rfl), (Nat.le_of_ble_eq_true rfl)⟩ rfl hl.1 (hW_ok [.inr v74] (Nat.le_of_ble_eq_true rfl)) dX5_compareNext_44 ⟨(Nat.le_of_ble_eq_true rfl), (Nat.le_of_ble_eq_true rfl)⟩ rfl (by rw [e82]; rfl) (mX5_to l D fu S38 b79 _ g83) (fun H locs hV => ?_)
    refine hr_aload_n hx hb dX5_compareNext_47 rfl (hr_at hl 2 rfl) ?_
    obtain ⟨v85, g86, h87⟩ := hbind h84; clear h84
    refine h_gI hx hb hown hV g86 (flRX5_44 hts hK) dX5_compareNext_48 ?_
    refine lv_iadd hx hb dX5_compareNext_51 ?_
    refine lv_iload_n hx hb dX5_compareNext_52 rfl (hi_at hl 1 rfl) ?_
    obtain ⟨b90, g91, h92⟩ := hbind h87; clear h87
    obtain ⟨_, _, e93, q93⟩ := rcv_inv g91
    obtain ⟨r88, S89, g94, h95⟩ := hbn2 h92; clear h92
    refine h_callVN (n := 2) (As := [.int (r77 + v85), .int r15]) (rest := []) (st1 := []) (fr := 0) (lo := 0) (mc := 0) (ms := 0) C.1 hK hV q93 rfl rfl wd285 (wo583 hK.2) wd284 wd8 wd79 ⟨by decide, by decide, by decide⟩ ⟨(Nat.le_of_ble_eq_true rfl), (Nat.le_of_ble_eq_true rfl)⟩ rfl hl.1 (hW_ok [] (Nat.le_of_ble_eq_true rfl)) dX5_compareNext_53 ⟨(Nat.le_of_ble_eq_true rfl), (Nat.le_of_ble_eq_true rfl)⟩ rfl (by rw [e93]; rfl) (mX0_write l D fu S78 b90 (r77 + v85) r15 _ g94) (fun H locs hV => ?_)
    refine hr_aload_n hx hb dX5_compareNext_56 rfl (hr_at hl 2 rfl) ?_
    refine hr_dup hx hb dX5_compareNext_57 ?_
    obtain ⟨v96, g97, h98⟩ := hbind h95; clear h95
    refine h_gI hx hb hown hV g97 (flRX5_29 hts hK) dX5_compareNext_58 ?_
    refine lv_iconst (v := 1) hx hb dX5_compareNext_61 (by decide) ?_
    refine lv_iadd hx hb dX5_compareNext_62 ?_
    obtain ⟨S99, g100, h101⟩ := hbind h98; clear h98
    refine h_put hx hb hown hV g100 (fpRX5_29 hts hK) rfl rfl dX5_compareNext_63 (fun H locs hV => ?_)
    refine lv_goto (tgt := 96) hx hb dX5_compareNext_66 (by decide) ?_
    exact kX5_compareNext_96 C fu S99 a0 _ _ _ h101 hV (hl_sub hl [2] rfl)
def fX6_stack (fu : Nat) (S : hS) (a0 : Nat) (x1 : Int32) (x2 : Int32) : Option (Unit × hS) := if x2 ≤ x1 then (some ((), S)) else ((gI S 6 5 (some a0)).bind fun v2 =>
(gR S 6 4 (some a0)).bind fun v5 =>
(gI S 1 1 v5).bind fun v8 =>
if v8 < (v2 + (2 : Int32)) then (some ((), S)) else ((gR S 6 0 (some a0)).bind fun v12 =>
(gR S 6 4 (some a0)).bind fun v15 =>
(gI S 1 0 v15).bind fun v18 =>
(gI S 6 5 (some a0)).bind fun v21 =>
(rcv S 0 v12).bind fun b26 =>
bn2 (fX0_write fu S b26 (v18 + v21) x1) fun _ S25 =>
(gR S25 6 0 (some a0)).bind fun v32 =>
(gR S25 6 4 (some a0)).bind fun v35 =>
(gI S25 1 0 v35).bind fun v38 =>
(gI S25 6 5 (some a0)).bind fun v41 =>
(rcv S25 0 v32).bind fun b46 =>
bn2 (fX0_write fu S25 b46 ((v38 + v41) + (1 : Int32)) x2) fun _ S45 =>
(gI S45 6 5 (some a0)).bind fun v52 =>
(pV S45 6 5 (some a0) (.int (v52 + (2 : Int32)))).bind fun S55 =>
some ((), S55)))
set_option maxHeartbeats 4000000 in
set_option maxRecDepth 100000 in
theorem mX6_stack (l : Launch) (D : hD) (fu : Nat) (S : hS) (a0 : Nat) (x1 : Int32) (x2 : Int32) (z : Unit × hS) (h : fX6_stack fu S a0 x1 x2 = some z) : hM l D yX6_stack cX6_stack 3 none 1 22 0 0 [va_rf (some a0), .int x1, .int x2] S none z.2 := by
  refine h_body [.inr (some a0), .inl x1, .inl x2] RX6 (by decide) rfl (Nat.le_of_ble_eq_true rfl) ?_
  intro p e s m args below meth c C hin ls hV hl
  obtain ⟨-, hx, hb, hml, hown, hr, hlk, hK, hts⟩ := id C
  unfold fX6_stack at h
  refine lv_iload_n hx hb dX6_stack_0 rfl (hi_at hl 1 rfl) ?_
  refine lv_iload_n hx hb dX6_stack_1 rfl (hi_at hl 2 rfl) ?_
  refine lv_icmp_ge (tgt := 73) hx hb dX6_stack_2 (by decide) (fun c1 => ?_) (fun c1 => ?_)
  · rw [if_pos c1] at h
    exact h_vret hx hb hr hlk hV h (Nat.le_of_ble_eq_true rfl) (Nat.le_of_ble_eq_true rfl) dX6_stack_73
  · rw [if_neg c1] at h
    refine hr_aload_n hx hb dX6_stack_5 rfl (hr_at hl 0 rfl) ?_
    obtain ⟨v2, g3, h4⟩ := hbind h; clear h
    refine h_gI hx hb hown hV g3 (flRX6_54 hts hK) dX6_stack_6 ?_
    refine lv_iconst (v := 2) hx hb dX6_stack_9 (by decide) ?_
    refine lv_iadd hx hb dX6_stack_10 ?_
    refine hr_aload_n hx hb dX6_stack_11 rfl (hr_at hl 0 rfl) ?_
    obtain ⟨v5, g6, h7⟩ := hbind h4; clear h4
    refine h_gR hx hb hown hV g6 (flRX6_7 hts hK) dX6_stack_12 ?_
    obtain ⟨v8, g9, h10⟩ := hbind h7; clear h7
    refine h_gI hx hb hown hV g9 (flRX6_57 hts hK) dX6_stack_15 ?_
    refine lv_icmp_gt (tgt := 73) hx hb dX6_stack_18 (by decide) (fun c11 => ?_) (fun c11 => ?_)
    · rw [if_pos c11] at h10
      exact h_vret hx hb hr hlk hV h10 (Nat.le_of_ble_eq_true rfl) (Nat.le_of_ble_eq_true rfl) dX6_stack_73
    · rw [if_neg c11] at h10
      refine hr_aload_n hx hb dX6_stack_21 rfl (hr_at hl 0 rfl) ?_
      obtain ⟨v12, g13, h14⟩ := hbind h10; clear h10
      refine h_gR hx hb hown hV g13 (flRX6_62 hts hK) dX6_stack_22 ?_
      refine hr_aload_n hx hb dX6_stack_25 rfl (hr_at hl 0 rfl) ?_
      obtain ⟨v15, g16, h17⟩ := hbind h14; clear h14
      refine h_gR hx hb hown hV g16 (flRX6_7 hts hK) dX6_stack_26 ?_
      obtain ⟨v18, g19, h20⟩ := hbind h17; clear h17
      refine h_gI hx hb hown hV g19 (flRX6_66 hts hK) dX6_stack_29 ?_
      refine hr_aload_n hx hb dX6_stack_32 rfl (hr_at hl 0 rfl) ?_
      obtain ⟨v21, g22, h23⟩ := hbind h20; clear h20
      refine h_gI hx hb hown hV g22 (flRX6_54 hts hK) dX6_stack_33 ?_
      refine lv_iadd hx hb dX6_stack_36 ?_
      refine lv_iload_n hx hb dX6_stack_37 rfl (hi_at hl 1 rfl) ?_
      obtain ⟨b26, g27, h28⟩ := hbind h23; clear h23
      obtain ⟨_, _, e29, q29⟩ := rcv_inv g27
      obtain ⟨r24, S25, g30, h31⟩ := hbn2 h28; clear h28
      refine h_callVN (n := 2) (As := [.int (v18 + v21), .int x1]) (rest := []) (st1 := []) (fr := 0) (lo := 0) (mc := 0) (ms := 0) C.1 hK hV q29 rfl rfl wd285 (wo611 hK.2) wd284 wd8 wd79 ⟨by decide, by decide, by decide⟩ ⟨(Nat.le_of_ble_eq_true rfl), (Nat.le_of_ble_eq_true rfl)⟩ rfl hl.1 (hW_ok [] (Nat.le_of_ble_eq_true rfl)) dX6_stack_38 ⟨(Nat.le_of_ble_eq_true rfl), (Nat.le_of_ble_eq_true rfl)⟩ rfl (by rw [e29]; rfl) (mX0_write l D fu S b26 (v18 + v21) x1 _ g30) (fun H locs hV => ?_)
      refine hr_aload_n hx hb dX6_stack_41 rfl (hr_at hl 0 rfl) ?_
      obtain ⟨v32, g33, h34⟩ := hbind h31; clear h31
      refine h_gR hx hb hown hV g33 (flRX6_62 hts hK) dX6_stack_42 ?_
      refine hr_aload_n hx hb dX6_stack_45 rfl (hr_at hl 0 rfl) ?_
      obtain ⟨v35, g36, h37⟩ := hbind h34; clear h34
      refine h_gR hx hb hown hV g36 (flRX6_7 hts hK) dX6_stack_46 ?_
      obtain ⟨v38, g39, h40⟩ := hbind h37; clear h37
      refine h_gI hx hb hown hV g39 (flRX6_66 hts hK) dX6_stack_49 ?_
      refine hr_aload_n hx hb dX6_stack_52 rfl (hr_at hl 0 rfl) ?_
      obtain ⟨v41, g42, h43⟩ := hbind h40; clear h40
      refine h_gI hx hb hown hV g42 (flRX6_54 hts hK) dX6_stack_53 ?_
      refine lv_iadd hx hb dX6_stack_56 ?_
      refine lv_iconst (v := 1) hx hb dX6_stack_57 (by decide) ?_
      refine lv_iadd hx hb dX6_stack_58 ?_
      refine lv_iload_n hx hb dX6_stack_59 rfl (hi_at hl 2 rfl) ?_
      obtain ⟨b46, g47, h48⟩ := hbind h43; clear h43
      obtain ⟨_, _, e49, q49⟩ := rcv_inv g47
      obtain ⟨r44, S45, g50, h51⟩ := hbn2 h48; clear h48
      refine h_callVN (n := 2) (As := [.int ((v38 + v41) + (1 : Int32)), .int x2]) (rest := []) (st1 := []) (fr := 0) (lo := 0) (mc := 0) (ms := 0) C.1 hK hV q49 rfl rfl wd285 (wo611 hK.2) wd284 wd8 wd79 ⟨by decide, by decide, by decide⟩ ⟨(Nat.le_of_ble_eq_true rfl), (Nat.le_of_ble_eq_true rfl)⟩ rfl hl.1 (hW_ok [] (Nat.le_of_ble_eq_true rfl)) dX6_stack_60 ⟨(Nat.le_of_ble_eq_true rfl), (Nat.le_of_ble_eq_true rfl)⟩ rfl (by rw [e49]; rfl) (mX0_write l D fu S25 b46 ((v38 + v41) + (1 : Int32)) x2 _ g50) (fun H locs hV => ?_)
      refine hr_aload_n hx hb dX6_stack_63 rfl (hr_at hl 0 rfl) ?_
      refine hr_dup hx hb dX6_stack_64 ?_
      obtain ⟨v52, g53, h54⟩ := hbind h51; clear h51
      refine h_gI hx hb hown hV g53 (flRX6_54 hts hK) dX6_stack_65 ?_
      refine lv_iconst (v := 2) hx hb dX6_stack_68 (by decide) ?_
      refine lv_iadd hx hb dX6_stack_69 ?_
      obtain ⟨S55, g56, h57⟩ := hbind h54; clear h54
      refine h_put hx hb hown hV g56 (fpRX6_54 hts hK) rfl rfl dX6_stack_70 (fun H locs hV => ?_)
      exact h_vret hx hb hr hlk hV h57 (Nat.le_of_ble_eq_true rfl) (Nat.le_of_ble_eq_true rfl) dX6_stack_73
