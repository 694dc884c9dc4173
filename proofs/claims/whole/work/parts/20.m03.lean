def fX6_takeLatestStacked (fu : Nat) (S : hS) (a0 : Nat) : Option (Unit × hS) := (gI S 6 5 (some a0)).bind fun v1 => if (2 : Int32) ≤ v1 then ((gI S 6 5 (some a0)).bind fun v5 =>
(pV S 6 5 (some a0) (.int (v5 - (2 : Int32)))).bind fun S8 =>
(gR S8 6 0 (some a0)).bind fun v11 =>
(gR S8 6 4 (some a0)).bind fun v14 =>
(gI S8 1 0 v14).bind fun v17 =>
(gI S8 6 5 (some a0)).bind fun v20 =>
(rcv S8 0 v11).bind fun b25 =>
bn2 (fX0_read fu S8 b25 (v17 + v20)) fun r23 S24 =>
(pV S24 6 6 (some a0) (.int r23)).bind fun S31 =>
(gR S31 6 0 (some a0)).bind fun v34 =>
(gR S31 6 4 (some a0)).bind fun v37 =>
(gI S31 1 0 v37).bind fun v40 =>
(gI S31 6 5 (some a0)).bind fun v43 =>
(rcv S31 0 v34).bind fun b48 =>
bn2 (fX0_read fu S31 b48 ((v40 + v43) + (1 : Int32))) fun r46 S47 =>
(pV S47 6 7 (some a0) (.int r46)).bind fun S54 =>
some ((), S54)) else ((zz (1 : Int32)).bind fun _ =>
(pV S 6 3 (some a0) (.int (1 : Int32))).bind fun S57 =>
some ((), S57))
set_option maxHeartbeats 4000000 in
set_option maxRecDepth 100000 in
theorem mX6_takeLatestStacked (l : Launch) (D : hD) (fu : Nat) (S : hS) (a0 : Nat) (z : Unit × hS) (h : fX6_takeLatestStacked fu S a0 = some z) : hM l D yX6_takeLatestStacked cX6_takeLatestStacked 1 none 1 21 0 0 [va_rf (some a0)] S none z.2 := by
  refine h_body [.inr (some a0)] RX6 (by decide) rfl (Nat.le_of_ble_eq_true rfl) ?_
  intro p e s m args below meth c C hin ls hV hl
  obtain ⟨-, hx, hb, hml, hown, hr, hlk, hK, hts⟩ := id C
  unfold fX6_takeLatestStacked at h
  refine hr_aload_n hx hb dX6_takeLatestStacked_0 rfl (hr_at hl 0 rfl) ?_
  obtain ⟨v1, g2, h3⟩ := hbind h; clear h
  refine h_gI hx hb hown hV g2 (flRX6_54 hts hK) dX6_takeLatestStacked_1 ?_
  refine lv_iconst (v := 2) hx hb dX6_takeLatestStacked_4 (by decide) ?_
  refine lv_icmp_ge (tgt := 14) hx hb dX6_takeLatestStacked_5 (by decide) (fun c4 => ?_) (fun c4 => ?_)
  · rw [if_pos c4] at h3
    refine hr_aload_n hx hb dX6_takeLatestStacked_14 rfl (hr_at hl 0 rfl) ?_
    refine hr_dup hx hb dX6_takeLatestStacked_15 ?_
    obtain ⟨v5, g6, h7⟩ := hbind h3; clear h3
    refine h_gI hx hb hown hV g6 (flRX6_54 hts hK) dX6_takeLatestStacked_16 ?_
    refine lv_iconst (v := 2) hx hb dX6_takeLatestStacked_19 (by decide) ?_
    refine lv_isub hx hb dX6_takeLatestStacked_20 ?_
    obtain ⟨S8, g9, h10⟩ := hbind h7; clear h7
    refine h_put hx hb hown hV g9 (fpRX6_54 hts hK) rfl rfl dX6_takeLatestStacked_21 (fun H locs hV => ?_)
    refine hr_aload_n hx hb dX6_takeLatestStacked_24 rfl (hr_at hl 0 rfl) ?_
    refine hr_aload_n hx hb dX6_takeLatestStacked_25 rfl (hr_at hl 0 rfl) ?_
    obtain ⟨v11, g12, h13⟩ := hbind h10; clear h10
    refine h_gR hx hb hown hV g12 (flRX6_62 hts hK) dX6_takeLatestStacked_26 ?_
    refine hr_aload_n hx hb dX6_takeLatestStacked_29 rfl (hr_at hl 0 rfl) ?_
    obtain ⟨v14, g15, h16⟩ := hbind h13; clear h13
    refine h_gR hx hb hown hV g15 (flRX6_7 hts hK) dX6_takeLatestStacked_30 ?_
    obtain ⟨v17, g18, h19⟩ := hbind h16; clear h16
    refine h_gI hx hb hown hV g18 (flRX6_66 hts hK) dX6_takeLatestStacked_33 ?_
    refine hr_aload_n hx hb dX6_takeLatestStacked_36 rfl (hr_at hl 0 rfl) ?_
    obtain ⟨v20, g21, h22⟩ := hbind h19; clear h19
    refine h_gI hx hb hown hV g21 (flRX6_54 hts hK) dX6_takeLatestStacked_37 ?_
    refine lv_iadd hx hb dX6_takeLatestStacked_40 ?_
    obtain ⟨b25, g26, h27⟩ := hbind h22; clear h22
    obtain ⟨_, _, e28, q28⟩ := rcv_inv g26
    obtain ⟨r23, S24, g29, h30⟩ := hbn2 h27; clear h27
    refine h_callVN (n := 1) (As := [.int (v17 + v20)]) (rest := [va_rf (some a0)]) (st1 := [.int r23, va_rf (some a0)]) (fr := 0) (lo := 0) (mc := 0) (ms := 0) C.1 hK hV q28 rfl rfl wd550 (wo616 hK.2) wd549 wd24 wd79 ⟨by decide, by decide, by decide⟩ ⟨(Nat.le_of_ble_eq_true rfl), (Nat.le_of_ble_eq_true rfl)⟩ rfl hl.1 (hW_ok [.inr (some a0)] (Nat.le_of_ble_eq_true rfl)) dX6_takeLatestStacked_41 ⟨(Nat.le_of_ble_eq_true rfl), (Nat.le_of_ble_eq_true rfl)⟩ rfl (by rw [e28]; rfl) (mX0_read l D fu S8 b25 (v17 + v20) _ g29) (fun H locs hV => ?_)
    obtain ⟨S31, g32, h33⟩ := hbind h30; clear h30
    refine h_put hx hb hown hV g32 (fpRX6_13 hts hK) rfl rfl dX6_takeLatestStacked_44 (fun H locs hV => ?_)
    refine hr_aload_n hx hb dX6_takeLatestStacked_47 rfl (hr_at hl 0 rfl) ?_
    refine hr_aload_n hx hb dX6_takeLatestStacked_48 rfl (hr_at hl 0 rfl) ?_
    obtain ⟨v34, g35, h36⟩ := hbind h33; clear h33
    refine h_gR hx hb hown hV g35 (flRX6_62 hts hK) dX6_takeLatestStacked_49 ?_
    refine hr_aload_n hx hb dX6_takeLatestStacked_52 rfl (hr_at hl 0 rfl) ?_
    obtain ⟨v37, g38, h39⟩ := hbind h36; clear h36
    refine h_gR hx hb hown hV g38 (flRX6_7 hts hK) dX6_takeLatestStacked_53 ?_
    obtain ⟨v40, g41, h42⟩ := hbind h39; clear h39
    refine h_gI hx hb hown hV g41 (flRX6_66 hts hK) dX6_takeLatestStacked_56 ?_
    refine hr_aload_n hx hb dX6_takeLatestStacked_59 rfl (hr_at hl 0 rfl) ?_
    obtain ⟨v43, g44, h45⟩ := hbind h42; clear h42
    refine h_gI hx hb hown hV g44 (flRX6_54 hts hK) dX6_takeLatestStacked_60 ?_
    refine lv_iadd hx hb dX6_takeLatestStacked_63 ?_
    refine lv_iconst (v := 1) hx hb dX6_takeLatestStacked_64 (by decide) ?_
    refine lv_iadd hx hb dX6_takeLatestStacked_65 ?_
    obtain ⟨b48, g49, h50⟩ := hbind h45; clear h45
    obtain ⟨_, _, e51, q51⟩ := rcv_inv g49
    obtain ⟨r46, S47, g52, h53⟩ := hbn2 h50; clear h50
    refine h_callVN (n := 1) (As := [.int ((v40 + v43) + (1 : Int32))]) (rest := [va_rf (some a0)]) (st1 := [.int r46, va_rf (some a0)]) (fr := 0) (lo := 0) (mc := 0) (ms := 0) C.1 hK hV q51 rfl rfl wd550 (wo616 hK.2) wd549 wd24 wd79 ⟨by decide, by decide, by decide⟩ ⟨(Nat.le_of_ble_eq_true rfl), (Nat.le_of_ble_eq_true rfl)⟩ rfl hl.1 (hW_ok [.inr (some a0)] (Nat.le_of_ble_eq_true rfl)) dX6_takeLatestStacked_66 ⟨(Nat.le_of_ble_eq_true rfl), (Nat.le_of_ble_eq_true rfl)⟩ rfl (by rw [e51]; rfl) (mX0_read l D fu S31 b48 ((v40 + v43) + (1 : Int32)) _ g52) (fun H locs hV => ?_)
    obtain ⟨S54, g55, h56⟩ := hbind h53; clear h53
    refine h_put hx hb hown hV g55 (fpRX6_20 hts hK) rfl rfl dX6_takeLatestStacked_69 (fun H locs hV => ?_)
    exact h_vret hx hb hr hlk hV h56 (Nat.le_of_ble_eq_true rfl) (Nat.le_of_ble_eq_true rfl) dX6_takeLatestStacked_72
  · rw [if_neg c4] at h3
    refine hr_aload_n hx hb dX6_takeLatestStacked_8 rfl (hr_at hl 0 rfl) ?_
    refine lv_iconst (v := 1) hx hb dX6_takeLatestStacked_9 (by decide) ?_
    obtain ⟨v58, g59, h60⟩ := hbind h3; clear h3
    obtain ⟨S57, g61, h62⟩ := hbind h60; clear h60
    refine h_put hx hb hown hV g61 (fpRX6_23 hts hK) (zz_nar (zz_inv g59).2) (zz_fit (zz_inv g59).2) dX6_takeLatestStacked_10 (fun H locs hV => ?_)
    exact h_vret hx hb hr hlk hV h62 (Nat.le_of_ble_eq_true rfl) (Nat.le_of_ble_eq_true rfl) dX6_takeLatestStacked_13
def fX6_chooseRange_72 (fu : Nat) (S : hS) (a0 : Nat) : Option (Unit × hS) := (gI S 6 6 (some a0)).bind fun v1 => (gI S 6 7 (some a0)).bind fun v4 => if v1 < v4 then (some ((), S)) else ((rcv S 6 (some a0)).bind fun b10 =>
bn2 (fX6_takeLatestStacked fu S b10) fun _ S9 =>
some ((), S9))
set_option maxHeartbeats 4000000 in
set_option maxRecDepth 100000 in
theorem kX6_chooseRange_72 {p : Program} {l : Launch} {e : Env} {s : State} {m : MethodId} {args : Array Value} {below : List Frame} {meth : Method} {c : Code} {D : hD} {S0 : hS} {z : Unit × hS} (C : hCx p m c cX6_chooseRange 1 s args RX6 meth none D) (fu : Nat) : ∀ (S : hS) (a0 : Nat) (H : Heap) (locs : List Loc) (ls : Array Slot), fX6_chooseRange_72 fu S a0 = some z → h_V D (h_A S0) s S H locs → hl_has ls 1 [(0, .inr (some a0))] → W p l e { frames := 2, cells := 0, slots := 0, locals := 44 } s m args below meth c H locs 0 0 (MQ below (h_Q D (h_A S0) none z.2) args s 0 0 (h_A S0)) (F0 m 72 ls []) := by
  obtain ⟨-, hx, hb, hml, hown, hr, hlk, hK, hts⟩ := id C
  intro S a0 _ _ _ h hV hl
  unfold fX6_chooseRange_72 at h
  refine hr_aload_n hx hb dX6_chooseRange_72 rfl (hr_at hl 0 rfl) ?_
  obtain ⟨v1, g2, h3⟩ := hbind h; clear h
  refine h_gI hx hb hown hV g2 (flRX6_13 hts hK) dX6_chooseRange_73 ?_
  refine hr_aload_n hx hb dX6_chooseRange_76 rfl (hr_at hl 0 rfl) ?_
  obtain ⟨v4, g5, h6⟩ := hbind h3; clear h3
  refine h_gI hx hb hown hV g5 (flRX6_20 hts hK) dX6_chooseRange_77 ?_
  refine lv_icmp_lt (tgt := 87) hx hb dX6_chooseRange_80 (by decide) (fun c7 => ?_) (fun c7 => ?_)
  · rw [if_pos c7] at h6
    exact h_vret hx hb hr hlk hV h6 (Nat.le_of_ble_eq_true rfl) (Nat.le_of_ble_eq_true rfl) dX6_chooseRange_87
  · rw [if_neg c7] at h6
    refine hr_aload_n hx hb dX6_chooseRange_83 rfl (hr_at hl 0 rfl) ?_
    obtain ⟨b10, g11, h12⟩ := hbind h6; clear h6
    obtain ⟨_, _, e13, q13⟩ := rcv_inv g11
    obtain ⟨r8, S9, g14, h15⟩ := hbn2 h12; clear h12
    refine h_callV (n := 0) (As := []) (rest := []) (st1 := []) (fr := 1) (lo := 21) (mc := 0) (ms := 0) C.1 hK hV q13 rfl rfl wd615 wd612 wd614 wd34 wd90 ⟨by decide, by decide, by decide⟩ ⟨(Nat.le_of_ble_eq_true rfl), (Nat.le_of_ble_eq_true rfl)⟩ rfl hl.1 (hW_ok [] (Nat.le_of_ble_eq_true rfl)) dX6_chooseRange_84 ⟨(Nat.le_of_ble_eq_true rfl), (Nat.le_of_ble_eq_true rfl)⟩ rfl (by rw [e13]; rfl) (mX6_takeLatestStacked l D fu S b10 _ g14) (fun H locs hV => ?_)
    exact h_vret hx hb hr hlk hV h15 (Nat.le_of_ble_eq_true rfl) (Nat.le_of_ble_eq_true rfl) dX6_chooseRange_87
def fX6_chooseRange (fu : Nat) (S : hS) (a0 : Nat) : Option (Unit × hS) := (gI S 6 8 (some a0)).bind fun v1 => (gI S 6 6 (some a0)).bind fun v4 => (gI S 6 7 (some a0)).bind fun v7 => (gI S 6 8 (some a0)).bind fun v10 => if (v1 - v4) ≤ (v7 - v10) then ((gI S 6 8 (some a0)).bind fun v14 =>
(gI S 6 7 (some a0)).bind fun v17 =>
(rcv S 6 (some a0)).bind fun b22 =>
bn2 (fX6_stack fu S b22 (v14 + (1 : Int32)) v17) fun _ S21 =>
(gI S21 6 8 (some a0)).bind fun v28 =>
(pV S21 6 7 (some a0) (.int (v28 - (1 : Int32)))).bind fun S31 =>
fX6_chooseRange_72 fu S31 a0) else ((gI S 6 6 (some a0)).bind fun v34 =>
(gI S 6 8 (some a0)).bind fun v37 =>
(rcv S 6 (some a0)).bind fun b42 =>
bn2 (fX6_stack fu S b42 v34 (v37 - (1 : Int32))) fun _ S41 =>
(gI S41 6 8 (some a0)).bind fun v48 =>
(pV S41 6 6 (some a0) (.int (v48 + (1 : Int32)))).bind fun S51 =>
fX6_chooseRange_72 fu S51 a0)
set_option maxHeartbeats 4000000 in
set_option maxRecDepth 100000 in
theorem mX6_chooseRange (l : Launch) (D : hD) (fu : Nat) (S : hS) (a0 : Nat) (z : Unit × hS) (h : fX6_chooseRange fu S a0 = some z) : hM l D yX6_chooseRange cX6_chooseRange 1 none 2 44 0 0 [va_rf (some a0)] S none z.2 := by
  refine h_body [.inr (some a0)] RX6 (by decide) rfl (Nat.le_of_ble_eq_true rfl) ?_
  intro p e s m args below meth c C hin ls hV hl
  obtain ⟨-, hx, hb, hml, hown, hr, hlk, hK, hts⟩ := id C
  unfold fX6_chooseRange at h
  refine hr_aload_n hx hb dX6_chooseRange_0 rfl (hr_at hl 0 rfl) ?_
  obtain ⟨v1, g2, h3⟩ := hbind h; clear h
  refine h_gI hx hb hown hV g2 (flRX6_38 hts hK) dX6_chooseRange_1 ?_
  refine hr_aload_n hx hb dX6_chooseRange_4 rfl (hr_at hl 0 rfl) ?_
  obtain ⟨v4, g5, h6⟩ := hbind h3; clear h3
  refine h_gI hx hb hown hV g5 (flRX6_13 hts hK) dX6_chooseRange_5 ?_
  refine lv_isub hx hb dX6_chooseRange_8 ?_
  refine hr_aload_n hx hb dX6_chooseRange_9 rfl (hr_at hl 0 rfl) ?_
  obtain ⟨v7, g8, h9⟩ := hbind h6; clear h6
  refine h_gI hx hb hown hV g8 (flRX6_20 hts hK) dX6_chooseRange_10 ?_
  refine hr_aload_n hx hb dX6_chooseRange_13 rfl (hr_at hl 0 rfl) ?_
  obtain ⟨v10, g11, h12⟩ := hbind h9; clear h9
  refine h_gI hx hb hown hV g11 (flRX6_38 hts hK) dX6_chooseRange_14 ?_
  refine lv_isub hx hb dX6_chooseRange_17 ?_
  refine lv_icmp_le (tgt := 48) hx hb dX6_chooseRange_18 (by decide) (fun c13 => ?_) (fun c13 => ?_)
  · rw [if_pos c13] at h12
    refine hr_aload_n hx hb dX6_chooseRange_48 rfl (hr_at hl 0 rfl) ?_
    refine hr_aload_n hx hb dX6_chooseRange_49 rfl (hr_at hl 0 rfl) ?_
    obtain ⟨v14, g15, h16⟩ := hbind h12; clear h12
    refine h_gI hx hb hown hV g15 (flRX6_38 hts hK) dX6_chooseRange_50 ?_
    refine lv_iconst (v := 1) hx hb dX6_chooseRange_53 (by decide) ?_
    refine lv_iadd hx hb dX6_chooseRange_54 ?_
    refine hr_aload_n hx hb dX6_chooseRange_55 rfl (hr_at hl 0 rfl) ?_
    obtain ⟨v17, g18, h19⟩ := hbind h16; clear h16
    refine h_gI hx hb hown hV g18 (flRX6_20 hts hK) dX6_chooseRange_56 ?_
    obtain ⟨b22, g23, h24⟩ := hbind h19; clear h19
    obtain ⟨_, _, e25, q25⟩ := rcv_inv g23
    obtain ⟨r20, S21, g26, h27⟩ := hbn2 h24; clear h24
    refine h_callV (n := 2) (As := [.int (v14 + (1 : Int32)), .int v17]) (rest := []) (st1 := []) (fr := 1) (lo := 22) (mc := 0) (ms := 0) C.1 hK hV q25 rfl rfl wd610 wd607 wd609 wd33 wd90 ⟨by decide, by decide, by decide⟩ ⟨(Nat.le_of_ble_eq_true rfl), (Nat.le_of_ble_eq_true rfl)⟩ rfl hl.1 (hW_ok [] (Nat.le_of_ble_eq_true rfl)) dX6_chooseRange_59 ⟨(Nat.le_of_ble_eq_true rfl), (Nat.le_of_ble_eq_true rfl)⟩ rfl (by rw [e25]; rfl) (mX6_stack l D fu S b22 (v14 + (1 : Int32)) v17 _ g26) (fun H locs hV => ?_)
    refine hr_aload_n hx hb dX6_chooseRange_62 rfl (hr_at hl 0 rfl) ?_
    refine hr_aload_n hx hb dX6_chooseRange_63 rfl (hr_at hl 0 rfl) ?_
    obtain ⟨v28, g29, h30⟩ := hbind h27; clear h27
    refine h_gI hx hb hown hV g29 (flRX6_38 hts hK) dX6_chooseRange_64 ?_
    refine lv_iconst (v := 1) hx hb dX6_chooseRange_67 (by decide) ?_
    refine lv_isub hx hb dX6_chooseRange_68 ?_
    obtain ⟨S31, g32, h33⟩ := hbind h30; clear h30
    refine h_put hx hb hown hV g32 (fpRX6_20 hts hK) rfl rfl dX6_chooseRange_69 (fun H locs hV => ?_)
    exact kX6_chooseRange_72 C fu S31 a0 _ _ _ h33 hV (hl_sub hl [0] rfl)
  · rw [if_neg c13] at h12
    refine hr_aload_n hx hb dX6_chooseRange_21 rfl (hr_at hl 0 rfl) ?_
    refine hr_aload_n hx hb dX6_chooseRange_22 rfl (hr_at hl 0 rfl) ?_
    obtain ⟨v34, g35, h36⟩ := hbind h12; clear h12
    refine h_gI hx hb hown hV g35 (flRX6_13 hts hK) dX6_chooseRange_23 ?_
    refine hr_aload_n hx hb dX6_chooseRange_26 rfl (hr_at hl 0 rfl) ?_
    obtain ⟨v37, g38, h39⟩ := hbind h36; clear h36
    refine h_gI hx hb hown hV g38 (flRX6_38 hts hK) dX6_chooseRange_27 ?_
    refine lv_iconst (v := 1) hx hb dX6_chooseRange_30 (by decide) ?_
    refine lv_isub hx hb dX6_chooseRange_31 ?_
    obtain ⟨b42, g43, h44⟩ := hbind h39; clear h39
    obtain ⟨_, _, e45, q45⟩ := rcv_inv g43
    obtain ⟨r40, S41, g46, h47⟩ := hbn2 h44; clear h44
    refine h_callV (n := 2) (As := [.int v34, .int (v37 - (1 : Int32))]) (rest := []) (st1 := []) (fr := 1) (lo := 22) (mc := 0) (ms := 0) C.1 hK hV q45 rfl rfl wd610 wd607 wd609 wd33 wd90 ⟨by decide, by decide, by decide⟩ ⟨(Nat.le_of_ble_eq_true rfl), (Nat.le_of_ble_eq_true rfl)⟩ rfl hl.1 (hW_ok [] (Nat.le_of_ble_eq_true rfl)) dX6_chooseRange_32 ⟨(Nat.le_of_ble_eq_true rfl), (Nat.le_of_ble_eq_true rfl)⟩ rfl (by rw [e45]; rfl) (mX6_stack l D fu S b42 v34 (v37 - (1 : Int32)) _ g46) (fun H locs hV => ?_)
    refine hr_aload_n hx hb dX6_chooseRange_35 rfl (hr_at hl 0 rfl) ?_
    refine hr_aload_n hx hb dX6_chooseRange_36 rfl (hr_at hl 0 rfl) ?_
    obtain ⟨v48, g49, h50⟩ := hbind h47; clear h47
    refine h_gI hx hb hown hV g49 (flRX6_38 hts hK) dX6_chooseRange_37 ?_
    refine lv_iconst (v := 1) hx hb dX6_chooseRange_40 (by decide) ?_
    refine lv_iadd hx hb dX6_chooseRange_41 ?_
    obtain ⟨S51, g52, h53⟩ := hbind h50; clear h50
    refine h_put hx hb hown hV g52 (fpRX6_13 hts hK) rfl rfl dX6_chooseRange_42 (fun H locs hV => ?_)
    refine lv_goto (tgt := 72) hx hb dX6_chooseRange_45 (by decide) ?_
    exact kX6_chooseRange_72 C fu S51 a0 _ _ _ h53 hV (hl_sub hl [0] rfl)
def fX6_startRange (fu : Nat) (S : hS) (a0 : Nat) : Option (Unit × hS) := (gI S 6 6 (some a0)).bind fun v1 => (gI S 6 7 (some a0)).bind fun v4 => (gI S 6 7 (some a0)).bind fun v7 => (rcv S 6 (some a0)).bind fun b12 => bn2 (fX8_swap fu S b12 ((v1 + v4) / (2 : Int32)) v7) fun _ S11 => (gI S11 6 6 (some a0)).bind fun v18 => (pV S11 6 8 (some a0) (.int v18)).bind fun S21 => (gI S21 6 6 (some a0)).bind fun v24 => (pV S21 6 9 (some a0) (.int v24)).bind fun S27 => some ((), S27)
set_option maxHeartbeats 4000000 in
set_option maxRecDepth 100000 in
theorem mX6_startRange (l : Launch) (D : hD) (fu : Nat) (S : hS) (a0 : Nat) (z : Unit × hS) (h : fX6_startRange fu S a0 = some z) : hM l D yX6_startRange cX6_startRange 1 none 2 45 0 0 [va_rf (some a0)] S none z.2 := by
  refine h_body [.inr (some a0)] RX6 (by decide) rfl (Nat.le_of_ble_eq_true rfl) ?_
  intro p e s m args below meth c C hin ls hV hl
  obtain ⟨-, hx, hb, hml, hown, hr, hlk, hK, hts⟩ := id C
  unfold fX6_startRange at h
  refine hr_aload_n hx hb dX6_startRange_0 rfl (hr_at hl 0 rfl) ?_
  refine hr_aload_n hx hb dX6_startRange_1 rfl (hr_at hl 0 rfl) ?_
  obtain ⟨v1, g2, h3⟩ := hbind h; clear h
  refine h_gI hx hb hown hV g2 (flRX6_13 hts hK) dX6_startRange_2 ?_
  refine hr_aload_n hx hb dX6_startRange_5 rfl (hr_at hl 0 rfl) ?_
  obtain ⟨v4, g5, h6⟩ := hbind h3; clear h3
  refine h_gI hx hb hown hV g5 (flRX6_20 hts hK) dX6_startRange_6 ?_
  refine lv_iadd hx hb dX6_startRange_9 ?_
  refine lv_iconst (v := 2) hx hb dX6_startRange_10 (by decide) ?_
  refine lv_idiv hx hb dX6_startRange_11 (by decide) ?_
  refine hr_aload_n hx hb dX6_startRange_12 rfl (hr_at hl 0 rfl) ?_
  obtain ⟨v7, g8, h9⟩ := hbind h6; clear h6
  refine h_gI hx hb hown hV g8 (flRX6_20 hts hK) dX6_startRange_13 ?_
  obtain ⟨b12, g13, h14⟩ := hbind h9; clear h9
  obtain ⟨_, _, e15, q15⟩ := rcv_inv g13
  obtain ⟨r10, S11, g16, h17⟩ := hbn2 h14; clear h14
  refine h_callU (owner := RX8) (x := ⟨"SortKernel$QuickSorting", "swap", "(II)V"⟩) (n := 2) (As := [.int ((v1 + v4) / (2 : Int32)), .int v7]) (rest := []) (st1 := []) (fr := 1) (lo := 23) (mc := 0) (ms := 0) C.1 hK hV q15 rfl wd506 wd501 wd505 wd504 wd86 wd502 (va_Decl.of (hts _ wd505) (hts _ wd506)) ⟨by decide, by decide⟩ ⟨by decide, by decide, by decide⟩ ⟨(Nat.le_of_ble_eq_true rfl), (Nat.le_of_ble_eq_true rfl)⟩ rfl hl.1 (hW_ok [] (Nat.le_of_ble_eq_true rfl)) dX6_startRange_16 ⟨(Nat.le_of_ble_eq_true rfl), (Nat.le_of_ble_eq_true rfl)⟩ rfl (by rw [e15]; rfl) (mX8_swap l D fu S b12 ((v1 + v4) / (2 : Int32)) v7 _ g16) (fun H locs hV => ?_)
  refine hr_aload_n hx hb dX6_startRange_19 rfl (hr_at hl 0 rfl) ?_
  refine hr_aload_n hx hb dX6_startRange_20 rfl (hr_at hl 0 rfl) ?_
  obtain ⟨v18, g19, h20⟩ := hbind h17; clear h17
  refine h_gI hx hb hown hV g19 (flRX6_13 hts hK) dX6_startRange_21 ?_
  obtain ⟨S21, g22, h23⟩ := hbind h20; clear h20
  refine h_put hx hb hown hV g22 (fpRX6_38 hts hK) rfl rfl dX6_startRange_24 (fun H locs hV => ?_)
  refine hr_aload_n hx hb dX6_startRange_27 rfl (hr_at hl 0 rfl) ?_
  refine hr_aload_n hx hb dX6_startRange_28 rfl (hr_at hl 0 rfl) ?_
  obtain ⟨v24, g25, h26⟩ := hbind h23; clear h23
  refine h_gI hx hb hown hV g25 (flRX6_13 hts hK) dX6_startRange_29 ?_
  obtain ⟨S27, g28, h29⟩ := hbind h26; clear h26
  refine h_put hx hb hown hV g28 (fpRX6_31 hts hK) rfl rfl dX6_startRange_32 (fun H locs hV => ?_)
  exact h_vret hx hb hr hlk hV h29 (Nat.le_of_ble_eq_true rfl) (Nat.le_of_ble_eq_true rfl) dX6_startRange_35
def fX6_compareNext_41 (fu : Nat) (S : hS) (a0 : Nat) : Option (Unit × hS) := (gI S 6 9 (some a0)).bind fun v1 => (pV S 6 9 (some a0) (.int (v1 + (1 : Int32)))).bind fun S4 => (gI S4 6 9 (some a0)).bind fun v7 => (gI S4 6 7 (some a0)).bind fun v10 => if v7 < v10 then (some ((), S4)) else ((gI S4 6 8 (some a0)).bind fun v14 =>
(gI S4 6 7 (some a0)).bind fun v17 =>
(rcv S4 6 (some a0)).bind fun b22 =>
bn2 (fX8_swap fu S4 b22 v14 v17) fun _ S21 =>
(rcv S21 6 (some a0)).bind fun b30 =>
bn2 (fX6_chooseRange fu S21 b30) fun _ S29 =>
(gI S29 6 3 (some a0)).bind fun v36 =>
if v36 = 0 then ((rcv S29 6 (some a0)).bind fun b42 =>
bn2 (fX6_startRange fu S29 b42) fun _ S41 =>
some ((), S41)) else (some ((), S29)))
set_option maxHeartbeats 4000000 in
set_option maxRecDepth 100000 in
theorem kX6_compareNext_41 {p : Program} {l : Launch} {e : Env} {s : State} {m : MethodId} {args : Array Value} {below : List Frame} {meth : Method} {c : Code} {D : hD} {S0 : hS} {z : Unit × hS} (C : hCx p m c cX6_compareNext 1 s args RX6 meth none D) (fu : Nat) : ∀ (S : hS) (a0 : Nat) (H : Heap) (locs : List Loc) (ls : Array Slot), fX6_compareNext_41 fu S a0 = some z → h_V D (h_A S0) s S H locs → hl_has ls 1 [(0, .inr (some a0))] → W p l e { frames := 3, cells := 0, slots := 0, locals := 65 } s m args below meth c H locs 0 0 (MQ below (h_Q D (h_A S0) none z.2) args s 0 0 (h_A S0)) (F0 m 41 ls []) := by
  obtain ⟨-, hx, hb, hml, hown, hr, hlk, hK, hts⟩ := id C
  intro S a0 _ _ _ h hV hl
  unfold fX6_compareNext_41 at h
  refine hr_aload_n hx hb dX6_compareNext_41 rfl (hr_at hl 0 rfl) ?_
  refine hr_dup hx hb dX6_compareNext_42 ?_
  obtain ⟨v1, g2, h3⟩ := hbind h; clear h
  refine h_gI hx hb hown hV g2 (flRX6_31 hts hK) dX6_compareNext_43 ?_
  refine lv_iconst (v := 1) hx hb dX6_compareNext_46 (by decide) ?_
  refine lv_iadd hx hb dX6_compareNext_47 ?_
  obtain ⟨S4, g5, h6⟩ := hbind h3; clear h3
  refine h_put hx hb hown hV g5 (fpRX6_31 hts hK) rfl rfl dX6_compareNext_48 (fun H locs hV => ?_)
  refine hr_aload_n hx hb dX6_compareNext_51 rfl (hr_at hl 0 rfl) ?_
  obtain ⟨v7, g8, h9⟩ := hbind h6; clear h6
  refine h_gI hx hb hown hV g8 (flRX6_31 hts hK) dX6_compareNext_52 ?_
  refine hr_aload_n hx hb dX6_compareNext_55 rfl (hr_at hl 0 rfl) ?_
  obtain ⟨v10, g11, h12⟩ := hbind h9; clear h9
  refine h_gI hx hb hown hV g11 (flRX6_20 hts hK) dX6_compareNext_56 ?_
  refine lv_icmp_lt (tgt := 89) hx hb dX6_compareNext_59 (by decide) (fun c13 => ?_) (fun c13 => ?_)
  · rw [if_pos c13] at h12
    exact h_vret hx hb hr hlk hV h12 (Nat.le_of_ble_eq_true rfl) (Nat.le_of_ble_eq_true rfl) dX6_compareNext_89
  · rw [if_neg c13] at h12
    refine hr_aload_n hx hb dX6_compareNext_62 rfl (hr_at hl 0 rfl) ?_
    refine hr_aload_n hx hb dX6_compareNext_63 rfl (hr_at hl 0 rfl) ?_
    obtain ⟨v14, g15, h16⟩ := hbind h12; clear h12
    refine h_gI hx hb hown hV g15 (flRX6_38 hts hK) dX6_compareNext_64 ?_
    refine hr_aload_n hx hb dX6_compareNext_67 rfl (hr_at hl 0 rfl) ?_
    obtain ⟨v17, g18, h19⟩ := hbind h16; clear h16
    refine h_gI hx hb hown hV g18 (flRX6_20 hts hK) dX6_compareNext_68 ?_
    obtain ⟨b22, g23, h24⟩ := hbind h19; clear h19
    obtain ⟨_, _, e25, q25⟩ := rcv_inv g23
    obtain ⟨r20, S21, g26, h27⟩ := hbn2 h24; clear h24
    refine h_callU (owner := RX8) (x := ⟨"SortKernel$QuickSorting", "swap", "(II)V"⟩) (n := 2) (As := [.int v14, .int v17]) (rest := []) (st1 := []) (fr := 1) (lo := 23) (mc := 0) (ms := 0) C.1 hK hV q25 rfl wd506 wd501 wd505 wd504 wd86 wd502 (va_Decl.of (hts _ wd505) (hts _ wd506)) ⟨by decide, by decide⟩ ⟨by decide, by decide, by decide⟩ ⟨(Nat.le_of_ble_eq_true rfl), (Nat.le_of_ble_eq_true rfl)⟩ rfl hl.1 (hW_ok [] (Nat.le_of_ble_eq_true rfl)) dX6_compareNext_71 ⟨(Nat.le_of_ble_eq_true rfl), (Nat.le_of_ble_eq_true rfl)⟩ rfl (by rw [e25]; rfl) (mX8_swap l D fu S4 b22 v14 v17 _ g26) (fun H locs hV => ?_)
    refine hr_aload_n hx hb dX6_compareNext_74 rfl (hr_at hl 0 rfl) ?_
    obtain ⟨b30, g31, h32⟩ := hbind h27; clear h27
    obtain ⟨_, _, e33, q33⟩ := rcv_inv g31
    obtain ⟨r28, S29, g34, h35⟩ := hbn2 h32; clear h32
    refine h_callV (n := 0) (As := []) (rest := []) (st1 := []) (fr := 2) (lo := 44) (mc := 0) (ms := 0) C.1 hK hV q33 rfl rfl wd606 wd603 wd605 wd32 wd90 ⟨by decide, by decide, by decide⟩ ⟨(Nat.le_of_ble_eq_true rfl), (Nat.le_of_ble_eq_true rfl)⟩ rfl hl.1 (hW_ok [] (Nat.le_of_ble_eq_true rfl)) dX6_compareNext_75 ⟨(Nat.le_of_ble_eq_true rfl), (Nat.le_of_ble_eq_true rfl)⟩ rfl (by rw [e33]; rfl) (mX6_chooseRange l D fu S21 b30 _ g34) (fun H locs hV => ?_)
    refine hr_aload_n hx hb dX6_compareNext_78 rfl (hr_at hl 0 rfl) ?_
    obtain ⟨v36, g37, h38⟩ := hbind h35; clear h35
    refine h_gI hx hb hown hV g37 (flRX6_23 hts hK) dX6_compareNext_79 ?_
    refine lv_if_ne (tgt := 89) hx hb dX6_compareNext_82 (by decide) (fun c39 => ?_) (fun c39 => ?_)
    · rw [if_neg c39] at h38
      exact h_vret hx hb hr hlk hV h38 (Nat.le_of_ble_eq_true rfl) (Nat.le_of_ble_eq_true rfl) dX6_compareNext_89
    · rw [if_pos c39] at h38
      refine hr_aload_n hx hb dX6_compareNext_85 rfl (hr_at hl 0 rfl) ?_
      obtain ⟨b42, g43, h44⟩ := hbind h38; clear h38
      obtain ⟨_, _, e45, q45⟩ := rcv_inv g43
      obtain ⟨r40, S41, g46, h47⟩ := hbn2 h44; clear h44
      refine h_callV (n := 0) (As := []) (rest := []) (st1 := []) (fr := 2) (lo := 45) (mc := 0) (ms := 0) C.1 hK hV q45 rfl rfl wd500 wd497 wd499 wd17 wd90 ⟨by decide, by decide, by decide⟩ ⟨(Nat.le_of_ble_eq_true rfl), (Nat.le_of_ble_eq_true rfl)⟩ rfl hl.1 (hW_ok [] (Nat.le_of_ble_eq_true rfl)) dX6_compareNext_86 ⟨(Nat.le_of_ble_eq_true rfl), (Nat.le_of_ble_eq_true rfl)⟩ rfl (by rw [e45]; rfl) (mX6_startRange l D fu S29 b42 _ g46) (fun H locs hV => ?_)
      exact h_vret hx hb hr hlk hV h47 (Nat.le_of_ble_eq_true rfl) (Nat.le_of_ble_eq_true rfl) dX6_compareNext_89
def fX6_compareNext (fu : Nat) (S : hS) (a0 : Nat) : Option (Unit × hS) := (gI S 6 9 (some a0)).bind fun v1 => (rcv S 6 (some a0)).bind fun b6 => bn2 (fX8_cell fu S b6 v1) fun r4 S5 => (gI S5 6 7 (some a0)).bind fun v12 => (rcv S5 6 (some a0)).bind fun b17 => bn2 (fX8_cell fu S5 b17 v12) fun r15 S16 => if r15 ≤ r4 then (fX6_compareNext_41 fu S16 a0) else ((gI S16 6 9 (some a0)).bind fun v24 =>
(gI S16 6 8 (some a0)).bind fun v27 =>
(rcv S16 6 (some a0)).bind fun b32 =>
bn2 (fX8_swap fu S16 b32 v24 v27) fun _ S31 =>
(gI S31 6 8 (some a0)).bind fun v38 =>
(pV S31 6 8 (some a0) (.int (v38 + (1 : Int32)))).bind fun S41 =>
fX6_compareNext_41 fu S41 a0)
set_option maxHeartbeats 4000000 in
set_option maxRecDepth 100000 in
theorem mX6_compareNext (l : Launch) (D : hD) (fu : Nat) (S : hS) (a0 : Nat) (z : Unit × hS) (h : fX6_compareNext fu S a0 = some z) : hM l D yX6_compareNext cX6_compareNext 1 none 3 65 0 0 [va_rf (some a0)] S none z.2 := by
  refine h_body [.inr (some a0)] RX6 (by decide) rfl (Nat.le_of_ble_eq_true rfl) ?_
  intro p e s m args below meth c C hin ls hV hl
  obtain ⟨-, hx, hb, hml, hown, hr, hlk, hK, hts⟩ := id C
  unfold fX6_compareNext at h
  refine hr_aload_n hx hb dX6_compareNext_0 rfl (hr_at hl 0 rfl) ?_
  refine hr_aload_n hx hb dX6_compareNext_1 rfl (hr_at hl 0 rfl) ?_
  obtain ⟨v1, g2, h3⟩ := hbind h; clear h
  refine h_gI hx hb hown hV g2 (flRX6_31 hts hK) dX6_compareNext_2 ?_
  obtain ⟨b6, g7, h8⟩ := hbind h3; clear h3
  obtain ⟨_, _, e9, q9⟩ := rcv_inv g7
  obtain ⟨r4, S5, g10, h11⟩ := hbn2 h8; clear h8
  refine h_callU (owner := RX8) (x := ⟨"SortKernel$QuickSorting", "cell", "(I)I"⟩) (n := 1) (As := [.int v1]) (rest := []) (st1 := [.int r4]) (fr := 1) (lo := 21) (mc := 0) (ms := 0) C.1 hK hV q9 rfl wd546 wd600 wd545 wd602 wd86 wd601 (va_Decl.of (hts _ wd545) (hts _ wd546)) ⟨by decide, by decide⟩ ⟨by decide, by decide, by decide⟩ ⟨(Nat.le_of_ble_eq_true rfl), (Nat.le_of_ble_eq_true rfl)⟩ rfl hl.1 (hW_ok [] (Nat.le_of_ble_eq_true rfl)) dX6_compareNext_5 ⟨(Nat.le_of_ble_eq_true rfl), (Nat.le_of_ble_eq_true rfl)⟩ rfl (by rw [e9]; rfl) (mX8_cell l D fu S b6 v1 _ g10) (fun H locs hV => ?_)
  refine hr_aload_n hx hb dX6_compareNext_8 rfl (hr_at hl 0 rfl) ?_
  refine hr_aload_n hx hb dX6_compareNext_9 rfl (hr_at hl 0 rfl) ?_
  obtain ⟨v12, g13, h14⟩ := hbind h11; clear h11
  refine h_gI hx hb hown hV g13 (flRX6_20 hts hK) dX6_compareNext_10 ?_
  obtain ⟨b17, g18, h19⟩ := hbind h14; clear h14
  obtain ⟨_, _, e20, q20⟩ := rcv_inv g18
  obtain ⟨r15, S16, g21, h22⟩ := hbn2 h19; clear h19
  refine h_callU (owner := RX8) (x := ⟨"SortKernel$QuickSorting", "cell", "(I)I"⟩) (n := 1) (As := [.int v12]) (rest := [.int r4]) (st1 := [.int r15, .int r4]) (fr := 1) (lo := 21) (mc := 0) (ms := 0) C.1 hK hV q20 rfl wd546 wd600 wd545 wd602 wd86 wd601 (va_Decl.of (hts _ wd545) (hts _ wd546)) ⟨by decide, by decide⟩ ⟨by decide, by decide, by decide⟩ ⟨(Nat.le_of_ble_eq_true rfl), (Nat.le_of_ble_eq_true rfl)⟩ rfl hl.1 (hW_ok [.inl r4] (Nat.le_of_ble_eq_true rfl)) dX6_compareNext_13 ⟨(Nat.le_of_ble_eq_true rfl), (Nat.le_of_ble_eq_true rfl)⟩ rfl (by rw [e20]; rfl) (mX8_cell l D fu S5 b17 v12 _ g21) (fun H locs hV => ?_)
  refine lv_icmp_ge (tgt := 41) hx hb dX6_compareNext_16 (by decide) (fun c23 => ?_) (fun c23 => ?_)
  · rw [if_pos c23] at h22
    exact kX6_compareNext_41 C fu S16 a0 _ _ _ h22 hV (hl_sub hl [0] rfl)
  · rw [if_neg c23] at h22
    refine hr_aload_n hx hb dX6_compareNext_19 rfl (hr_at hl 0 rfl) ?_
    refine hr_aload_n hx hb dX6_compareNext_20 rfl (hr_at hl 0 rfl) ?_
    obtain ⟨v24, g25, h26⟩ := hbind h22; clear h22
    refine h_gI hx hb hown hV g25 (flRX6_31 hts hK) dX6_compareNext_21 ?_
    refine hr_aload_n hx hb dX6_compareNext_24 rfl (hr_at hl 0 rfl) ?_
    obtain ⟨v27, g28, h29⟩ := hbind h26; clear h26
    refine h_gI hx hb hown hV g28 (flRX6_38 hts hK) dX6_compareNext_25 ?_
    obtain ⟨b32, g33, h34⟩ := hbind h29; clear h29
    obtain ⟨_, _, e35, q35⟩ := rcv_inv g33
    obtain ⟨r30, S31, g36, h37⟩ := hbn2 h34; clear h34
    refine h_callU (owner := RX8) (x := ⟨"SortKernel$QuickSorting", "swap", "(II)V"⟩) (n := 2) (As := [.int v24, .int v27]) (rest := []) (st1 := []) (fr := 1) (lo := 23) (mc := 0) (ms := 0) C.1 hK hV q35 rfl wd506 wd501 wd505 wd504 wd86 wd502 (va_Decl.of (hts _ wd505) (hts _ wd506)) ⟨by decide, by decide⟩ ⟨by decide, by decide, by decide⟩ ⟨(Nat.le_of_ble_eq_true rfl), (Nat.le_of_ble_eq_true rfl)⟩ rfl hl.1 (hW_ok [] (Nat.le_of_ble_eq_true rfl)) dX6_compareNext_28 ⟨(Nat.le_of_ble_eq_true rfl), (Nat.le_of_ble_eq_true rfl)⟩ rfl (by rw [e35]; rfl) (mX8_swap l D fu S16 b32 v24 v27 _ g36) (fun H locs hV => ?_)
    refine hr_aload_n hx hb dX6_compareNext_31 rfl (hr_at hl 0 rfl) ?_
    refine hr_dup hx hb dX6_compareNext_32 ?_
    obtain ⟨v38, g39, h40⟩ := hbind h37; clear h37
    refine h_gI hx hb hown hV g39 (flRX6_38 hts hK) dX6_compareNext_33 ?_
    refine lv_iconst (v := 1) hx hb dX6_compareNext_36 (by decide) ?_
    refine lv_iadd hx hb dX6_compareNext_37 ?_
    obtain ⟨S41, g42, h43⟩ := hbind h40; clear h40
    refine h_put hx hb hown hV g42 (fpRX6_38 hts hK) rfl rfl dX6_compareNext_38 (fun H locs hV => ?_)
    exact kX6_compareNext_41 C fu S41 a0 _ _ _ h43 hV (hl_sub hl [0] rfl)
def dS_compareNext (fu : Nat) (S : hS) (r : Option Nat) : Option (Unit × hS) := if hk4 S r = 2 then r.bind (fun b => fX2_compareNext fu S b) else if hk4 S r = 3 then r.bind (fun b => fX3_compareNext fu S b) else if hk4 S r = 5 then r.bind (fun b => fX5_compareNext fu S b) else if hk4 S r = 6 then r.bind (fun b => fX6_compareNext fu S b) else none
set_option maxHeartbeats 4000000 in
set_option maxRecDepth 100000 in
theorem h_dS_compareNext_X4_compareUpTo {p : Program} {l : Launch} {e : Env} {s : State} {m : MethodId} {args : Array Value} {below : List Frame} {meth : Method} {c : Code} {H : Heap} {locs : List Loc} {cells slots : Nat} {Q : State → Prop} {cc : ByteArray} {nL pc fu : Nat} {ls : Array Slot} {rest : List Value} {D : hD} {A : Nat → Prop} {S S1 : hS} {r : Option Nat} {w : Unit} (F : hFix p m c cc nL s args RX4) (hK : h_K D s) (hV : h_V D A s S H locs) (hg : dS_compareNext fu S r = some (w, S1)) (hsz : ls.size = nL) (hW : (rest.map fun v => v.category).sum ≤ 8) (hdg : decode cc pc = .ok (.invokevirtual 53, 3)) (hcs : cells ≤ 0 ∧ slots ≤ 0)
    (kk : ∀ (H1 : Heap) (locs1 : List Loc), h_V D A s S1 H1 locs1 → W p l e { frames := 5, cells := 0, slots := 0, locals := 106 } s m args below meth c H1 locs1 cells slots Q (F0 m (pc + 3) ls rest)) : W p l e { frames := 5, cells := 0, slots := 0, locals := 106 } s m args below meth c H locs cells slots Q (F0 m pc ls (va_rf r :: rest)) := by
  have hts := F.ts
  unfold dS_compareNext at hg
  by_cases c2 : hk4 S r = 2
  · rw [if_pos c2] at hg
    obtain ⟨b, n, V, e1, q1⟩ := hk4_inv c2 (by decide)
    subst e1
    exact h_callU (owner := RX8) (x := ⟨"SortKernel$Sorting", "compareNext", "()V"⟩) (n := 0) (As := []) (rest := rest) (st1 := rest) (fr := 2) (lo := 45) (mc := 0) (ms := 0) F hK hV q1 rfl wd540 wd535 wd539 wd538 wd89 wd537 (va_Decl.abs (wo536 hK.2)) ⟨by decide, by decide⟩ ⟨by decide, by decide, by decide⟩ ⟨Nat.le_of_ble_eq_true rfl, Nat.le_of_ble_eq_true rfl⟩ rfl hsz hW hdg hcs rfl rfl (mX2_compareNext l D fu S b _ hg) kk
  · rw [if_neg c2] at hg
    by_cases c3 : hk4 S r = 3
    · rw [if_pos c3] at hg
      obtain ⟨b, n, V, e1, q1⟩ := hk4_inv c3 (by decide)
      subst e1
      exact h_callU (owner := RX8) (x := ⟨"SortKernel$Sorting", "compareNext", "()V"⟩) (n := 0) (As := []) (rest := rest) (st1 := rest) (fr := 3) (lo := 65) (mc := 0) (ms := 0) F hK hV q1 rfl wd560 wd535 wd559 wd558 wd87 wd537 (va_Decl.abs (wo536 hK.2)) ⟨by decide, by decide⟩ ⟨by decide, by decide, by decide⟩ ⟨Nat.le_of_ble_eq_true rfl, Nat.le_of_ble_eq_true rfl⟩ rfl hsz hW hdg hcs rfl rfl (mX3_compareNext l D fu S b _ hg) kk
    · rw [if_neg c3] at hg
      by_cases c5 : hk4 S r = 5
      · rw [if_pos c5] at hg
        obtain ⟨b, n, V, e1, q1⟩ := hk4_inv c5 (by decide)
        subst e1
        exact h_callU (owner := RX8) (x := ⟨"SortKernel$Sorting", "compareNext", "()V"⟩) (n := 0) (As := []) (rest := rest) (st1 := rest) (fr := 4) (lo := 84) (mc := 0) (ms := 0) F hK hV q1 rfl wd573 wd535 wd572 wd571 wd88 wd537 (va_Decl.abs (wo536 hK.2)) ⟨by decide, by decide⟩ ⟨by decide, by decide, by decide⟩ ⟨Nat.le_of_ble_eq_true rfl, Nat.le_of_ble_eq_true rfl⟩ rfl hsz hW hdg hcs rfl rfl (mX5_compareNext l D fu S b _ hg) kk
      · rw [if_neg c5] at hg
        by_cases c6 : hk4 S r = 6
        · rw [if_pos c6] at hg
          obtain ⟨b, n, V, e1, q1⟩ := hk4_inv c6 (by decide)
          subst e1
          exact h_callU (owner := RX8) (x := ⟨"SortKernel$Sorting", "compareNext", "()V"⟩) (n := 0) (As := []) (rest := rest) (st1 := rest) (fr := 3) (lo := 65) (mc := 0) (ms := 0) F hK hV q1 rfl wd599 wd535 wd598 wd597 wd90 wd537 (va_Decl.abs (wo536 hK.2)) ⟨by decide, by decide⟩ ⟨by decide, by decide, by decide⟩ ⟨Nat.le_of_ble_eq_true rfl, Nat.le_of_ble_eq_true rfl⟩ rfl hsz hW hdg hcs rfl rfl (mX6_compareNext l D fu S b _ hg) kk
        · rw [if_neg c6] at hg
          cases hg
def fX4_compareUpTo_37 (fu : Nat) (S : hS) (a0 : Nat) (x2 : Int32) : Option (Int32 × hS) := (gI S 4 6 (some a0)).bind fun v1 => (pV S 4 6 (some a0) (.int (v1 + x2))).bind fun S4 => some (x2, S4)
set_option maxHeartbeats 4000000 in
set_option maxRecDepth 100000 in
theorem kX4_compareUpTo_37 {p : Program} {l : Launch} {e : Env} {s : State} {m : MethodId} {args : Array Value} {below : List Frame} {meth : Method} {c : Code} {D : hD} {S0 : hS} {z : Int32 × hS} (C : hCx p m c cX4_compareUpTo 3 s args RX4 meth (some .int) D) (fu : Nat) : ∀ (S : hS) (a0 : Nat) (x2 : Int32) (H : Heap) (locs : List Loc) (ls : Array Slot), fX4_compareUpTo_37 fu S a0 x2 = some z → h_V D (h_A S0) s S H locs → hl_has ls 3 [(0, .inr (some a0)), (2, .inl x2)] → W p l e { frames := 5, cells := 0, slots := 0, locals := 106 } s m args below meth c H locs 0 0 (MQ below (h_Q D (h_A S0) (some (.int z.1)) z.2) args s 0 0 (h_A S0)) (F0 m 37 ls []) := by
  obtain ⟨-, hx, hb, hml, hown, hr, hlk, hK, hts⟩ := id C
  intro S a0 x2 _ _ _ h hV hl
  unfold fX4_compareUpTo_37 at h
  refine hr_aload_n hx hb dX4_compareUpTo_37 rfl (hr_at hl 0 rfl) ?_
  refine hr_dup hx hb dX4_compareUpTo_38 ?_
  obtain ⟨v1, g2, h3⟩ := hbind h; clear h
  refine h_gI hx hb hown hV g2 (flRX4_56 hts hK) dX4_compareUpTo_39 ?_
  refine lv_iload_n hx hb dX4_compareUpTo_42 rfl (hi_at hl 1 rfl) ?_
  refine lv_iadd hx hb dX4_compareUpTo_43 ?_
  obtain ⟨S4, g5, h6⟩ := hbind h3; clear h3
  refine h_put hx hb hown hV g5 (fpRX4_56 hts hK) rfl rfl dX4_compareUpTo_44 (fun H locs hV => ?_)
  refine lv_iload_n hx hb dX4_compareUpTo_47 rfl (hi_at hl 1 rfl) ?_
  exact h_iret hx hb hr hlk hV h6 (Nat.le_of_ble_eq_true rfl) (Nat.le_of_ble_eq_true rfl) dX4_compareUpTo_48
def fX4_compareUpTo_2 (fu : Nat) : Nat → hS → Nat → Int32 → Int32 → Option (Int32 × hS)
  | 0, _, _, _, _ => none
  | n + 1, S, a0, x1, x2 => if x1 ≤ x2 then (fX4_compareUpTo_37 fu S a0 x2) else ((gR S 4 9 (some a0)).bind fun v2 =>
if v2 = none then (fX4_compareUpTo_37 fu S a0 x2) else ((gR S 4 9 (some a0)).bind fun v6 =>
(gI4 S 3 v6).bind fun v9 =>
if v9 = 0 then ((gR S 4 9 (some a0)).bind fun v13 =>
bn2 (dS_compareNext fu S v13) fun _ S17 =>
fX4_compareUpTo_2 fu n S17 a0 x1 (x2 + (1 : Int32))) else (fX4_compareUpTo_37 fu S a0 x2)))
set_option maxHeartbeats 4000000 in
set_option maxRecDepth 100000 in
theorem kX4_compareUpTo_2 {p : Program} {l : Launch} {e : Env} {s : State} {m : MethodId} {args : Array Value} {below : List Frame} {meth : Method} {c : Code} {D : hD} {S0 : hS} {z : Int32 × hS} (C : hCx p m c cX4_compareUpTo 3 s args RX4 meth (some .int) D) (fu : Nat) : ∀ (n : Nat) (S : hS) (a0 : Nat) (x1 : Int32) (x2 : Int32) (H : Heap) (locs : List Loc) (ls : Array Slot), fX4_compareUpTo_2 fu n S a0 x1 x2 = some z → h_V D (h_A S0) s S H locs → hl_has ls 3 [(0, .inr (some a0)), (1, .inl x1), (2, .inl x2)] → W p l e { frames := 5, cells := 0, slots := 0, locals := 106 } s m args below meth c H locs 0 0 (MQ below (h_Q D (h_A S0) (some (.int z.1)) z.2) args s 0 0 (h_A S0)) (F0 m 2 ls []) := by
  obtain ⟨-, hx, hb, hml, hown, hr, hlk, hK, hts⟩ := id C
  intro n
  induction n with
  | zero =>
    intro S a0 x1 x2 _ _ _ h hV hl
    rw [fX4_compareUpTo_2] at h
    cases h
  | succ n ih =>
    intro S a0 x1 x2 _ _ _ h hV hl
    rw [fX4_compareUpTo_2] at h
    refine lv_iload_n hx hb dX4_compareUpTo_2 rfl (hi_at hl 2 rfl) ?_
    refine lv_iload_n hx hb dX4_compareUpTo_3 rfl (hi_at hl 1 rfl) ?_
    refine lv_icmp_ge (tgt := 37) hx hb dX4_compareUpTo_4 (by decide) (fun c1 => ?_) (fun c1 => ?_)
    · rw [if_pos c1] at h
      exact kX4_compareUpTo_37 C fu S a0 x2 _ _ _ h hV (hl_sub hl [0, 2] rfl)
    · rw [if_neg c1] at h
      refine hr_aload_n hx hb dX4_compareUpTo_7 rfl (hr_at hl 0 rfl) ?_
      obtain ⟨v2, g3, h4⟩ := hbind h; clear h
      refine h_gR hx hb hown hV g3 (flRX4_43 hts hK) dX4_compareUpTo_8 ?_
      refine hr_ifnull (tgt := 37) hx hb dX4_compareUpTo_11 (by decide) (fun c5 => ?_) (fun c5 => ?_)
      · rw [if_pos c5] at h4
        exact kX4_compareUpTo_37 C fu S a0 x2 _ _ _ h4 hV (hl_sub hl [0, 2] rfl)
      · rw [if_neg c5] at h4
        refine hr_aload_n hx hb dX4_compareUpTo_14 rfl (hr_at hl 0 rfl) ?_
        obtain ⟨v6, g7, h8⟩ := hbind h4; clear h4
        refine h_gR hx hb hown hV g7 (flRX4_43 hts hK) dX4_compareUpTo_15 ?_
        obtain ⟨v9, g10, h11⟩ := hbind h8; clear h8
        refine h_gI4 hx hb hown hV g10 (flRX4_47 hts hK) dX4_compareUpTo_18 ?_
        refine lv_if_ne (tgt := 37) hx hb dX4_compareUpTo_21 (by decide) (fun c12 => ?_) (fun c12 => ?_)
        · rw [if_neg c12] at h11
          exact kX4_compareUpTo_37 C fu S a0 x2 _ _ _ h11 hV (hl_sub hl [0, 2] rfl)
        · rw [if_pos c12] at h11
          refine hr_aload_n hx hb dX4_compareUpTo_24 rfl (hr_at hl 0 rfl) ?_
          obtain ⟨v13, g14, h15⟩ := hbind h11; clear h11
          refine h_gR hx hb hown hV g14 (flRX4_43 hts hK) dX4_compareUpTo_25 ?_
          obtain ⟨r16, S17, g18, h19⟩ := hbn2 h15; clear h15
          refine h_dS_compareNext_X4_compareUpTo (rest := []) C.1 hK hV g18 hl.1 (hW_ok [] (Nat.le_of_ble_eq_true rfl)) dX4_compareUpTo_28 ⟨(Nat.le_of_ble_eq_true rfl), (Nat.le_of_ble_eq_true rfl)⟩ (fun H locs hV => ?_)
          refine h_iinc (v := (x2 + (1 : Int32))) (tl' := [(2, .inl (x2 + (1 : Int32))), (0, .inr (some a0)), (1, .inl x1)]) hx hb dX4_compareUpTo_31 hl (k := 2) rfl rfl (by decide) rfl (fun ls hl => ?_)
          refine lv_goto (tgt := 2) hx hb dX4_compareUpTo_34 (by decide) ?_
          exact ih S17 a0 x1 (x2 + (1 : Int32)) _ _ _ h19 hV (hl_sub hl [1, 2, 0] rfl)
def fX4_compareUpTo (fu : Nat) (S : hS) (a0 : Nat) (x1 : Int32) : Option (Int32 × hS) := fX4_compareUpTo_2 fu fu S a0 x1 (0 : Int32)
set_option maxHeartbeats 4000000 in
set_option maxRecDepth 100000 in
theorem mX4_compareUpTo (l : Launch) (D : hD) (fu : Nat) (S : hS) (a0 : Nat) (x1 : Int32) (z : Int32 × hS) (h : fX4_compareUpTo fu S a0 x1 = some z) : hM l D yX4_compareUpTo cX4_compareUpTo 3 (some .int) 5 106 0 0 [va_rf (some a0), .int x1] S (some (.int z.1)) z.2 := by
  refine h_body [.inr (some a0), .inl x1] RX4 (by decide) rfl (Nat.le_of_ble_eq_true rfl) ?_
  intro p e s m args below meth c C hin ls hV hl
  obtain ⟨-, hx, hb, hml, hown, hr, hlk, hK, hts⟩ := id C
  unfold fX4_compareUpTo at h
  refine lv_iconst (v := 0) hx hb dX4_compareUpTo_0 (by decide) ?_
  refine h_istore_n (tl' := [(2, .inl (0 : Int32)), (0, .inr (some a0)), (1, .inl x1)]) hx hb dX4_compareUpTo_1 rfl hl (by decide) rfl (fun ls hl => ?_)
  exact kX4_compareUpTo_2 C fu fu S a0 x1 (0 : Int32) _ _ _ h hV (hl_sub hl [1, 2, 0] rfl)
def fX5_init (fu : Nat) (S : hS) (a0 : Nat) (x1 : Option Nat) (x2 : Option Nat) (x3 : Option Nat) : Option (Unit × hS) := bn2 (fX8_init fu S a0 x1 x2) fun _ S2 => (pV S2 5 4 (some a0) (va_rf x3)).bind fun S5 => some ((), S5)
set_option maxHeartbeats 4000000 in
set_option maxRecDepth 100000 in
theorem mX5_init (l : Launch) (D : hD) (fu : Nat) (S : hS) (a0 : Nat) (x1 : Option Nat) (x2 : Option Nat) (x3 : Option Nat) (z : Unit × hS) (h : fX5_init fu S a0 x1 x2 x3 = some z) : hM l D yX5_init cX5_init 4 none 2 34 0 0 [va_rf (some a0), va_rf x1, va_rf x2, va_rf x3] S none z.2 := by
  refine h_body [.inr (some a0), .inr x1, .inr x2, .inr x3] RX5 (by decide) rfl (Nat.le_of_ble_eq_true rfl) ?_
  intro p e s m args below meth c C hin ls hV hl
  obtain ⟨-, hx, hb, hml, hown, hr, hlk, hK, hts⟩ := id C
  unfold fX5_init at h
  refine hr_aload_n hx hb dX5_init_0 rfl (hr_at hl 0 rfl) ?_
  refine hr_aload_n hx hb dX5_init_1 rfl (hr_at hl 1 rfl) ?_
  refine hr_aload_n hx hb dX5_init_2 rfl (hr_at hl 2 rfl) ?_
  obtain ⟨r1, S2, g3, h4⟩ := hbn2 h; clear h
  refine h_callI (b := a0) (n := 2) (As := [va_rf x1, va_rf x2]) (rest := []) (st1 := []) (fr := 1) (lo := 12) (mc := 0) (ms := 0) C.1 hK hV wd333 wd391 wd332 wd86 rfl ⟨by decide, by decide, by decide⟩ ⟨(Nat.le_of_ble_eq_true rfl), (Nat.le_of_ble_eq_true rfl)⟩ rfl hl.1 (hW_ok [] (Nat.le_of_ble_eq_true rfl)) dX5_init_3 ⟨(Nat.le_of_ble_eq_true rfl), (Nat.le_of_ble_eq_true rfl)⟩ rfl rfl (mX8_init l D fu S a0 x1 x2 _ g3) (fun H locs hV => ?_)
  refine hr_aload_n hx hb dX5_init_6 rfl (hr_at hl 0 rfl) ?_
  refine hr_aload_n hx hb dX5_init_7 rfl (hr_at hl 3 rfl) ?_
  obtain ⟨S5, g6, h7⟩ := hbind h4; clear h4
  refine h_put hx hb hown hV g6 (fpRX5_7 hts hK hown hin) (h_narO _) (h_fitO _) dX5_init_8 (fun H locs hV => ?_)
  exact h_vret hx hb hr hlk hV h7 (Nat.le_of_ble_eq_true rfl) (Nat.le_of_ble_eq_true rfl) dX5_init_11
def fX5_begin (fu : Nat) (S : hS) (a0 : Nat) : Option (Unit × hS) := (pV S 5 6 (some a0) (.int (1 : Int32))).bind fun S1 => (rcv S1 5 (some a0)).bind fun b6 => bn2 (fX5_standAt fu S1 b6 (0 : Int32)) fun _ S5 => some ((), S5)
set_option maxHeartbeats 4000000 in
set_option maxRecDepth 100000 in
theorem mX5_begin (l : Launch) (D : hD) (fu : Nat) (S : hS) (a0 : Nat) (z : Unit × hS) (h : fX5_begin fu S a0 = some z) : hM l D yX5_begin cX5_begin 1 none 2 35 0 0 [va_rf (some a0)] S none z.2 := by
  refine h_body [.inr (some a0)] RX5 (by decide) rfl (Nat.le_of_ble_eq_true rfl) ?_
  intro p e s m args below meth c C hin ls hV hl
  obtain ⟨-, hx, hb, hml, hown, hr, hlk, hK, hts⟩ := id C
  unfold fX5_begin at h
  refine hr_aload_n hx hb dX5_begin_0 rfl (hr_at hl 0 rfl) ?_
  refine lv_iconst (v := 1) hx hb dX5_begin_1 (by decide) ?_
  obtain ⟨S1, g2, h3⟩ := hbind h; clear h
  refine h_put hx hb hown hV g2 (fpRX5_13 hts hK) rfl rfl dX5_begin_2 (fun H locs hV => ?_)
  refine hr_aload_n hx hb dX5_begin_5 rfl (hr_at hl 0 rfl) ?_
  refine lv_iconst (v := 0) hx hb dX5_begin_6 (by decide) ?_
  obtain ⟨b6, g7, h8⟩ := hbind h3; clear h3
  obtain ⟨_, _, e9, q9⟩ := rcv_inv g7
  obtain ⟨r4, S5, g10, h11⟩ := hbn2 h8; clear h8
  refine h_callV (n := 1) (As := [.int (0 : Int32)]) (rest := []) (st1 := []) (fr := 1) (lo := 14) (mc := 0) (ms := 0) C.1 hK hV q9 rfl rfl wd492 wd489 wd491 wd16 wd88 ⟨by decide, by decide, by decide⟩ ⟨(Nat.le_of_ble_eq_true rfl), (Nat.le_of_ble_eq_true rfl)⟩ rfl hl.1 (hW_ok [] (Nat.le_of_ble_eq_true rfl)) dX5_begin_7 ⟨(Nat.le_of_ble_eq_true rfl), (Nat.le_of_ble_eq_true rfl)⟩ rfl (by rw [e9]; rfl) (mX5_standAt l D fu S1 b6 (0 : Int32) _ g10) (fun H locs hV => ?_)
  exact h_vret hx hb hr hlk hV h11 (Nat.le_of_ble_eq_true rfl) (Nat.le_of_ble_eq_true rfl) dX5_begin_10
def fX6_init (fu : Nat) (S : hS) (a0 : Nat) (x1 : Option Nat) (x2 : Option Nat) (x3 : Option Nat) : Option (Unit × hS) := bn2 (fX8_init fu S a0 x1 x2) fun _ S2 => (pV S2 6 4 (some a0) (va_rf x3)).bind fun S5 => some ((), S5)
set_option maxHeartbeats 4000000 in
set_option maxRecDepth 100000 in
theorem mX6_init (l : Launch) (D : hD) (fu : Nat) (S : hS) (a0 : Nat) (x1 : Option Nat) (x2 : Option Nat) (x3 : Option Nat) (z : Unit × hS) (h : fX6_init fu S a0 x1 x2 x3 = some z) : hM l D yX6_init cX6_init 4 none 2 34 0 0 [va_rf (some a0), va_rf x1, va_rf x2, va_rf x3] S none z.2 := by
  refine h_body [.inr (some a0), .inr x1, .inr x2, .inr x3] RX6 (by decide) rfl (Nat.le_of_ble_eq_true rfl) ?_
  intro p e s m args below meth c C hin ls hV hl
  obtain ⟨-, hx, hb, hml, hown, hr, hlk, hK, hts⟩ := id C
  unfold fX6_init at h
  refine hr_aload_n hx hb dX6_init_0 rfl (hr_at hl 0 rfl) ?_
  refine hr_aload_n hx hb dX6_init_1 rfl (hr_at hl 1 rfl) ?_
  refine hr_aload_n hx hb dX6_init_2 rfl (hr_at hl 2 rfl) ?_
  obtain ⟨r1, S2, g3, h4⟩ := hbn2 h; clear h
  refine h_callI (b := a0) (n := 2) (As := [va_rf x1, va_rf x2]) (rest := []) (st1 := []) (fr := 1) (lo := 12) (mc := 0) (ms := 0) C.1 hK hV wd333 wd449 wd332 wd86 rfl ⟨by decide, by decide, by decide⟩ ⟨(Nat.le_of_ble_eq_true rfl), (Nat.le_of_ble_eq_true rfl)⟩ rfl hl.1 (hW_ok [] (Nat.le_of_ble_eq_true rfl)) dX6_init_3 ⟨(Nat.le_of_ble_eq_true rfl), (Nat.le_of_ble_eq_true rfl)⟩ rfl rfl (mX8_init l D fu S a0 x1 x2 _ g3) (fun H locs hV => ?_)
  refine hr_aload_n hx hb dX6_init_6 rfl (hr_at hl 0 rfl) ?_
  refine hr_aload_n hx hb dX6_init_7 rfl (hr_at hl 3 rfl) ?_
  obtain ⟨S5, g6, h7⟩ := hbind h4; clear h4
  refine h_put hx hb hown hV g6 (fpRX6_7 hts hK hown hin) (h_narO _) (h_fitO _) dX6_init_8 (fun H locs hV => ?_)
  exact h_vret hx hb hr hlk hV h7 (Nat.le_of_ble_eq_true rfl) (Nat.le_of_ble_eq_true rfl) dX6_init_11
def fX6_begin (fu : Nat) (S : hS) (a0 : Nat) : Option (Unit × hS) := (pV S 6 6 (some a0) (.int (0 : Int32))).bind fun S1 => (gI S1 6 2 (some a0)).bind fun v4 => (pV S1 6 7 (some a0) (.int (v4 - (1 : Int32)))).bind fun S7 => (gI S7 6 3 (some a0)).bind fun v10 => if v10 = 0 then ((rcv S7 6 (some a0)).bind fun b16 =>
bn2 (fX6_startRange fu S7 b16) fun _ S15 =>
some ((), S15)) else (some ((), S7))
set_option maxHeartbeats 4000000 in
set_option maxRecDepth 100000 in
theorem mX6_begin (l : Launch) (D : hD) (fu : Nat) (S : hS) (a0 : Nat) (z : Unit × hS) (h : fX6_begin fu S a0 = some z) : hM l D yX6_begin cX6_begin 1 none 3 65 0 0 [va_rf (some a0)] S none z.2 := by
  refine h_body [.inr (some a0)] RX6 (by decide) rfl (Nat.le_of_ble_eq_true rfl) ?_
  intro p e s m args below meth c C hin ls hV hl
  obtain ⟨-, hx, hb, hml, hown, hr, hlk, hK, hts⟩ := id C
  unfold fX6_begin at h
  refine hr_aload_n hx hb dX6_begin_0 rfl (hr_at hl 0 rfl) ?_
  refine lv_iconst (v := 0) hx hb dX6_begin_1 (by decide) ?_
  obtain ⟨S1, g2, h3⟩ := hbind h; clear h
  refine h_put hx hb hown hV g2 (fpRX6_13 hts hK) rfl rfl dX6_begin_2 (fun H locs hV => ?_)
  refine hr_aload_n hx hb dX6_begin_5 rfl (hr_at hl 0 rfl) ?_
  refine hr_aload_n hx hb dX6_begin_6 rfl (hr_at hl 0 rfl) ?_
  obtain ⟨v4, g5, h6⟩ := hbind h3; clear h3
  refine h_gI hx hb hown hV g5 (flRX6_17 hts hK) dX6_begin_7 ?_
  refine lv_iconst (v := 1) hx hb dX6_begin_10 (by decide) ?_
  refine lv_isub hx hb dX6_begin_11 ?_
  obtain ⟨S7, g8, h9⟩ := hbind h6; clear h6
  refine h_put hx hb hown hV g8 (fpRX6_20 hts hK) rfl rfl dX6_begin_12 (fun H locs hV => ?_)
  refine hr_aload_n hx hb dX6_begin_15 rfl (hr_at hl 0 rfl) ?_
  obtain ⟨v10, g11, h12⟩ := hbind h9; clear h9
  refine h_gI hx hb hown hV g11 (flRX6_23 hts hK) dX6_begin_16 ?_
  refine lv_if_ne (tgt := 26) hx hb dX6_begin_19 (by decide) (fun c13 => ?_) (fun c13 => ?_)
  · rw [if_neg c13] at h12
    exact h_vret hx hb hr hlk hV h12 (Nat.le_of_ble_eq_true rfl) (Nat.le_of_ble_eq_true rfl) dX6_begin_26
  · rw [if_pos c13] at h12
    refine hr_aload_n hx hb dX6_begin_22 rfl (hr_at hl 0 rfl) ?_
    obtain ⟨b16, g17, h18⟩ := hbind h12; clear h12
    obtain ⟨_, _, e19, q19⟩ := rcv_inv g17
    obtain ⟨r14, S15, g20, h21⟩ := hbn2 h18; clear h18
    refine h_callV (n := 0) (As := []) (rest := []) (st1 := []) (fr := 2) (lo := 45) (mc := 0) (ms := 0) C.1 hK hV q19 rfl rfl wd500 wd497 wd499 wd17 wd90 ⟨by decide, by decide, by decide⟩ ⟨(Nat.le_of_ble_eq_true rfl), (Nat.le_of_ble_eq_true rfl)⟩ rfl hl.1 (hW_ok [] (Nat.le_of_ble_eq_true rfl)) dX6_begin_23 ⟨(Nat.le_of_ble_eq_true rfl), (Nat.le_of_ble_eq_true rfl)⟩ rfl (by rw [e19]; rfl) (mX6_startRange l D fu S7 b16 _ g20) (fun H locs hV => ?_)
    exact h_vret hx hb hr hlk hV h21 (Nat.le_of_ble_eq_true rfl) (Nat.le_of_ble_eq_true rfl) dX6_begin_26
def fX7_init (fu : Nat) (S : hS) (a0 : Nat) : Option (Unit × hS) := some ((), S)
set_option maxHeartbeats 4000000 in
set_option maxRecDepth 100000 in
theorem mX7_init (l : Launch) (D : hD) (fu : Nat) (S : hS) (a0 : Nat) (z : Unit × hS) (h : fX7_init fu S a0 = some z) : hM l D yX7_init cX7_init 1 none 1 12 0 0 [va_rf (some a0)] S none z.2 := by
  refine h_body [.inr (some a0)] RX7 (by decide) rfl (Nat.le_of_ble_eq_true rfl) ?_
  intro p e s m args below meth c C hin ls hV hl
  obtain ⟨-, hx, hb, hml, hown, hr, hlk, hK, hts⟩ := id C
  unfold fX7_init at h
  refine hr_aload_n hx hb dX7_init_0 rfl (hr_at hl 0 rfl) ?_
  refine h_oinit hx hb (hl.1.trans hml.symm) hown hts wd157 wd97 wd98 (Nat.le_of_ble_eq_true rfl) (hW_okL [] (Nat.le_of_ble_eq_true rfl)) dX7_init_1 ?_
  exact h_vret hx hb hr hlk hV h (Nat.le_of_ble_eq_true rfl) (Nat.le_of_ble_eq_true rfl) dX7_init_4
def fX7_enter_32 (fu : Nat) (S : hS) (a0 : Nat) (x1 : Option Nat) (x2 : Option Nat) : Option (Unit × hS) := if x2 = none then ((gR S 7 0 (some a0)).bind fun v11 =>
(pV S 4 10 x1 (va_rf v11)).bind fun S14 =>
(pV S14 7 0 (some a0) (va_rf x1)).bind fun S17 =>
some ((), S17)) else ((gR S 4 10 x2).bind fun v2 =>
(pV S 4 10 x1 (va_rf v2)).bind fun S5 =>
(pV S5 4 10 x2 (va_rf x1)).bind fun S8 =>
some ((), S8))
set_option maxHeartbeats 4000000 in
set_option maxRecDepth 100000 in
theorem kX7_enter_32 {p : Program} {l : Launch} {e : Env} {s : State} {m : MethodId} {args : Array Value} {below : List Frame} {meth : Method} {c : Code} {D : hD} {S0 : hS} {z : Unit × hS} (C : hCx p m c cX7_enter 4 s args RX7 meth none D) (fu : Nat) : ∀ (S : hS) (a0 : Nat) (x1 : Option Nat) (x2 : Option Nat) (H : Heap) (locs : List Loc) (ls : Array Slot), fX7_enter_32 fu S a0 x1 x2 = some z → h_V D (h_A S0) s S H locs → hl_has ls 4 [(0, .inr (some a0)), (1, .inr x1), (2, .inr x2)] → W p l e { frames := 0, cells := 0, slots := 0, locals := 0 } s m args below meth c H locs 0 0 (MQ below (h_Q D (h_A S0) none z.2) args s 0 0 (h_A S0)) (F0 m 32 ls []) := by
  obtain ⟨-, hx, hb, hml, hown, hr, hlk, hK, hts⟩ := id C
  intro S a0 x1 x2 _ _ _ h hV hl
  unfold fX7_enter_32 at h
  refine hr_aload_n hx hb dX7_enter_32 rfl (hr_at hl 2 rfl) ?_
  refine hr_ifnonnull (tgt := 52) hx hb dX7_enter_33 (by decide) (fun c1 => ?_) (fun c1 => ?_)
  · rw [if_neg c1] at h
    refine hr_aload_n hx hb dX7_enter_52 rfl (hr_at hl 1 rfl) ?_
    refine hr_aload_n hx hb dX7_enter_53 rfl (hr_at hl 2 rfl) ?_
    obtain ⟨v2, g3, h4⟩ := hbind h; clear h
    refine h_gR hx hb hown hV g3 (flRX7_21 hts hK) dX7_enter_54 ?_
    obtain ⟨S5, g6, h7⟩ := hbind h4; clear h4
    refine h_put hx hb hown hV g6 (fpRX7_21 hts hK) (h_narO _) (h_fitO _) dX7_enter_57 (fun H locs hV => ?_)
    refine hr_aload_n hx hb dX7_enter_60 rfl (hr_at hl 2 rfl) ?_
    refine hr_aload_n hx hb dX7_enter_61 rfl (hr_at hl 1 rfl) ?_
    obtain ⟨S8, g9, h10⟩ := hbind h7; clear h7
    refine h_put hx hb hown hV g9 (fpRX7_21 hts hK) (h_narO _) (h_fitO _) dX7_enter_62 (fun H locs hV => ?_)
    exact h_vret hx hb hr hlk hV h10 (Nat.le_of_ble_eq_true rfl) (Nat.le_of_ble_eq_true rfl) dX7_enter_65
  · rw [if_pos c1] at h
    refine hr_aload_n hx hb dX7_enter_36 rfl (hr_at hl 1 rfl) ?_
    refine hr_aload_n hx hb dX7_enter_37 rfl (hr_at hl 0 rfl) ?_
    obtain ⟨v11, g12, h13⟩ := hbind h; clear h
    refine h_gR hx hb hown hV g12 (flRX7_9 hts hK) dX7_enter_38 ?_
    obtain ⟨S14, g15, h16⟩ := hbind h13; clear h13
    refine h_put hx hb hown hV g15 (fpRX7_21 hts hK) (h_narO _) (h_fitO _) dX7_enter_41 (fun H locs hV => ?_)
    refine hr_aload_n hx hb dX7_enter_44 rfl (hr_at hl 0 rfl) ?_
    refine hr_aload_n hx hb dX7_enter_45 rfl (hr_at hl 1 rfl) ?_
    obtain ⟨S17, g18, h19⟩ := hbind h16; clear h16
    refine h_put hx hb hown hV g18 (fpRX7_9 hts hK) (h_narO _) (h_fitO _) dX7_enter_46 (fun H locs hV => ?_)
    refine lv_goto (tgt := 65) hx hb dX7_enter_49 (by decide) ?_
    exact h_vret hx hb hr hlk hV h19 (Nat.le_of_ble_eq_true rfl) (Nat.le_of_ble_eq_true rfl) dX7_enter_65
def fX7_enter_7 (fu : Nat) : Nat → hS → Nat → Option Nat → Option Nat → Option Nat → Option (Unit × hS)
  | 0, _, _, _, _, _ => none
  | n + 1, S, a0, x1, x2, x3 => if x3 = none then (fX7_enter_32 fu S a0 x1 x2) else ((gI S 4 4 x3).bind fun v2 =>
(gI S 4 4 x1).bind fun v5 =>
if v2 < v5 then (fX7_enter_32 fu S a0 x1 x2) else ((gR S 4 10 x3).bind fun v9 =>
fX7_enter_7 fu n S a0 x1 x3 v9))
set_option maxHeartbeats 4000000 in
set_option maxRecDepth 100000 in
theorem kX7_enter_7 {p : Program} {l : Launch} {e : Env} {s : State} {m : MethodId} {args : Array Value} {below : List Frame} {meth : Method} {c : Code} {D : hD} {S0 : hS} {z : Unit × hS} (C : hCx p m c cX7_enter 4 s args RX7 meth none D) (fu : Nat) : ∀ (n : Nat) (S : hS) (a0 : Nat) (x1 : Option Nat) (x2 : Option Nat) (x3 : Option Nat) (H : Heap) (locs : List Loc) (ls : Array Slot), fX7_enter_7 fu n S a0 x1 x2 x3 = some z → h_V D (h_A S0) s S H locs → hl_has ls 4 [(0, .inr (some a0)), (1, .inr x1), (2, .inr x2), (3, .inr x3)] → W p l e { frames := 0, cells := 0, slots := 0, locals := 0 } s m args below meth c H locs 0 0 (MQ below (h_Q D (h_A S0) none z.2) args s 0 0 (h_A S0)) (F0 m 7 ls []) := by
  obtain ⟨-, hx, hb, hml, hown, hr, hlk, hK, hts⟩ := id C
  intro n
  induction n with
  | zero =>
    intro S a0 x1 x2 x3 _ _ _ h hV hl
    rw [fX7_enter_7] at h
    cases h
  | succ n ih =>
    intro S a0 x1 x2 x3 _ _ _ h hV hl
    rw [fX7_enter_7] at h
    refine hr_aload_n hx hb dX7_enter_7 rfl (hr_at hl 3 rfl) ?_
    refine hr_ifnull (tgt := 32) hx hb dX7_enter_8 (by decide) (fun c1 => ?_) (fun c1 => ?_)
    · rw [if_pos c1] at h
      exact kX7_enter_32 C fu S a0 x1 x2 _ _ _ h hV (hl_sub hl [0, 1, 2] rfl)
    · rw [if_neg c1] at h
      refine hr_aload_n hx hb dX7_enter_11 rfl (hr_at hl 3 rfl) ?_
      obtain ⟨v2, g3, h4⟩ := hbind h; clear h
      refine h_gI hx hb hown hV g3 (flRX7_15 hts hK) dX7_enter_12 ?_
      refine hr_aload_n hx hb dX7_enter_15 rfl (hr_at hl 1 rfl) ?_
      obtain ⟨v5, g6, h7⟩ := hbind h4; clear h4
      refine h_gI hx hb hown hV g6 (flRX7_15 hts hK) dX7_enter_16 ?_
      refine lv_icmp_lt (tgt := 32) hx hb dX7_enter_19 (by decide) (fun c8 => ?_) (fun c8 => ?_)
      · rw [if_pos c8] at h7
        exact kX7_enter_32 C fu S a0 x1 x2 _ _ _ h7 hV (hl_sub hl [0, 1, 2] rfl)
      · rw [if_neg c8] at h7
        refine hr_aload_n hx hb dX7_enter_22 rfl (hr_at hl 3 rfl) ?_
        refine h_astore_n (tl' := [(2, .inr x3), (0, .inr (some a0)), (1, .inr x1), (3, .inr x3)]) hx hb dX7_enter_23 rfl hl (by decide) rfl (fun ls hl => ?_)
        refine hr_aload_n hx hb dX7_enter_24 rfl (hr_at hl 3 rfl) ?_
        obtain ⟨v9, g10, h11⟩ := hbind h7; clear h7
        refine h_gR hx hb hown hV g10 (flRX7_21 hts hK) dX7_enter_25 ?_
        refine h_astore_n (tl' := [(3, .inr v9), (2, .inr x3), (0, .inr (some a0)), (1, .inr x1)]) hx hb dX7_enter_28 rfl hl (by decide) rfl (fun ls hl => ?_)
        refine lv_goto (tgt := 7) hx hb dX7_enter_29 (by decide) ?_
        exact ih S a0 x1 x3 v9 _ _ _ h11 hV (hl_sub hl [2, 3, 1, 0] rfl)
def fX7_enter (fu : Nat) (S : hS) (a0 : Nat) (x1 : Option Nat) : Option (Unit × hS) := (gR S 7 0 (some a0)).bind fun v1 => fX7_enter_7 fu fu S a0 x1 none v1
set_option maxHeartbeats 4000000 in
set_option maxRecDepth 100000 in
theorem mX7_enter (l : Launch) (D : hD) (fu : Nat) (S : hS) (a0 : Nat) (x1 : Option Nat) (z : Unit × hS) (h : fX7_enter fu S a0 x1 = some z) : hM l D yX7_enter cX7_enter 4 none 0 0 0 0 [va_rf (some a0), va_rf x1] S none z.2 := by
  refine h_body [.inr (some a0), .inr x1] RX7 (by decide) rfl (Nat.le_of_ble_eq_true rfl) ?_
  intro p e s m args below meth c C hin ls hV hl
  obtain ⟨-, hx, hb, hml, hown, hr, hlk, hK, hts⟩ := id C
  unfold fX7_enter at h
  refine h_null hx hb dX7_enter_0 ?_
  refine h_astore_n (tl' := [(2, .inr none), (0, .inr (some a0)), (1, .inr x1)]) hx hb dX7_enter_1 rfl hl (by decide) rfl (fun ls hl => ?_)
  refine hr_aload_n hx hb dX7_enter_2 rfl (hr_at hl 1 rfl) ?_
  obtain ⟨v1, g2, h3⟩ := hbind h; clear h
  refine h_gR hx hb hown hV g2 (flRX7_9 hts hK) dX7_enter_3 ?_
  refine h_astore_n (tl' := [(3, .inr v1), (2, .inr none), (0, .inr (some a0)), (1, .inr x1)]) hx hb dX7_enter_6 rfl hl (by decide) rfl (fun ls hl => ?_)
  exact kX7_enter_7 C fu fu S a0 x1 none v1 _ _ _ h3 hV (hl_sub hl [2, 3, 1, 0] rfl)
def fX7_unlink_23 (fu : Nat) (S : hS) (x2 : Option Nat) : Option (Unit × hS) := (pV S 4 10 x2 (va_rf none)).bind fun S1 => some ((), S1)
set_option maxHeartbeats 4000000 in
set_option maxRecDepth 100000 in
theorem kX7_unlink_23 {p : Program} {l : Launch} {e : Env} {s : State} {m : MethodId} {args : Array Value} {below : List Frame} {meth : Method} {c : Code} {D : hD} {S0 : hS} {z : Unit × hS} (C : hCx p m c cX7_unlink 3 s args RX7 meth none D) (fu : Nat) : ∀ (S : hS) (x2 : Option Nat) (H : Heap) (locs : List Loc) (ls : Array Slot), fX7_unlink_23 fu S x2 = some z → h_V D (h_A S0) s S H locs → hl_has ls 3 [(2, .inr x2)] → W p l e { frames := 0, cells := 0, slots := 0, locals := 0 } s m args below meth c H locs 0 0 (MQ below (h_Q D (h_A S0) none z.2) args s 0 0 (h_A S0)) (F0 m 23 ls []) := by
  obtain ⟨-, hx, hb, hml, hown, hr, hlk, hK, hts⟩ := id C
  intro S x2 _ _ _ h hV hl
  unfold fX7_unlink_23 at h
  refine hr_aload_n hx hb dX7_unlink_23 rfl (hr_at hl 0 rfl) ?_
  refine h_null hx hb dX7_unlink_24 ?_
  obtain ⟨S1, g2, h3⟩ := hbind h; clear h
  refine h_put hx hb hown hV g2 (fpRX7_21 hts hK) (h_narO _) (h_fitO _) dX7_unlink_25 (fun H locs hV => ?_)
  exact h_vret hx hb hr hlk hV h3 (Nat.le_of_ble_eq_true rfl) (Nat.le_of_ble_eq_true rfl) dX7_unlink_28
def fX7_unlink (fu : Nat) (S : hS) (a0 : Nat) (x1 : Option Nat) (x2 : Option Nat) : Option (Unit × hS) := if x1 = none then ((gR S 4 10 x2).bind fun v8 =>
(pV S 7 0 (some a0) (va_rf v8)).bind fun S11 =>
fX7_unlink_23 fu S11 x2) else ((gR S 4 10 x2).bind fun v2 =>
(pV S 4 10 x1 (va_rf v2)).bind fun S5 =>
fX7_unlink_23 fu S5 x2)
set_option maxHeartbeats 4000000 in
set_option maxRecDepth 100000 in
theorem mX7_unlink (l : Launch) (D : hD) (fu : Nat) (S : hS) (a0 : Nat) (x1 : Option Nat) (x2 : Option Nat) (z : Unit × hS) (h : fX7_unlink fu S a0 x1 x2 = some z) : hM l D yX7_unlink cX7_unlink 3 none 0 0 0 0 [va_rf (some a0), va_rf x1, va_rf x2] S none z.2 := by
  refine h_body [.inr (some a0), .inr x1, .inr x2] RX7 (by decide) rfl (Nat.le_of_ble_eq_true rfl) ?_
  intro p e s m args below meth c C hin ls hV hl
  obtain ⟨-, hx, hb, hml, hown, hr, hlk, hK, hts⟩ := id C
  unfold fX7_unlink at h
  refine hr_aload_n hx hb dX7_unlink_0 rfl (hr_at hl 1 rfl) ?_
  refine hr_ifnonnull (tgt := 15) hx hb dX7_unlink_1 (by decide) (fun c1 => ?_) (fun c1 => ?_)
  · rw [if_neg c1] at h
    refine hr_aload_n hx hb dX7_unlink_15 rfl (hr_at hl 1 rfl) ?_
    refine hr_aload_n hx hb dX7_unlink_16 rfl (hr_at hl 2 rfl) ?_
    obtain ⟨v2, g3, h4⟩ := hbind h; clear h
    refine h_gR hx hb hown hV g3 (flRX7_21 hts hK) dX7_unlink_17 ?_
    obtain ⟨S5, g6, h7⟩ := hbind h4; clear h4
    refine h_put hx hb hown hV g6 (fpRX7_21 hts hK) (h_narO _) (h_fitO _) dX7_unlink_20 (fun H locs hV => ?_)
    exact kX7_unlink_23 C fu S5 x2 _ _ _ h7 hV (hl_sub hl [2] rfl)
  · rw [if_pos c1] at h
    refine hr_aload_n hx hb dX7_unlink_4 rfl (hr_at hl 0 rfl) ?_
    refine hr_aload_n hx hb dX7_unlink_5 rfl (hr_at hl 2 rfl) ?_
    obtain ⟨v8, g9, h10⟩ := hbind h; clear h
    refine h_gR hx hb hown hV g9 (flRX7_21 hts hK) dX7_unlink_6 ?_
    obtain ⟨S11, g12, h13⟩ := hbind h10; clear h10
    refine h_put hx hb hown hV g12 (fpRX7_9 hts hK) (h_narO _) (h_fitO _) dX7_unlink_9 (fun H locs hV => ?_)
    refine lv_goto (tgt := 23) hx hb dX7_unlink_12 (by decide) ?_
    exact kX7_unlink_23 C fu S11 x2 _ _ _ h13 hV (hl_sub hl [2] rfl)
def fX7_leave_7 (fu : Nat) : Nat → hS → Nat → Option Nat → Option Nat → Option Nat → Option (Unit × hS)
  | 0, _, _, _, _, _ => none
  | n + 1, S, a0, x1, x2, x3 => if x3 = none then (some ((), S)) else (if x3 = x1 then ((rcv S 7 (some a0)).bind fun b8 =>
bn2 (fX7_unlink fu S b8 x2 x1) fun _ S7 =>
some ((), S7)) else ((gR S 4 10 x3).bind fun v3 =>
fX7_leave_7 fu n S a0 x1 x3 v3))
set_option maxHeartbeats 4000000 in
set_option maxRecDepth 100000 in
theorem kX7_leave_7 {p : Program} {l : Launch} {e : Env} {s : State} {m : MethodId} {args : Array Value} {below : List Frame} {meth : Method} {c : Code} {D : hD} {S0 : hS} {z : Unit × hS} (C : hCx p m c cX7_leave 4 s args RX7 meth none D) (fu : Nat) : ∀ (n : Nat) (S : hS) (a0 : Nat) (x1 : Option Nat) (x2 : Option Nat) (x3 : Option Nat) (H : Heap) (locs : List Loc) (ls : Array Slot), fX7_leave_7 fu n S a0 x1 x2 x3 = some z → h_V D (h_A S0) s S H locs → hl_has ls 4 [(0, .inr (some a0)), (1, .inr x1), (2, .inr x2), (3, .inr x3)] → W p l e { frames := 1, cells := 0, slots := 0, locals := 22 } s m args below meth c H locs 0 0 (MQ below (h_Q D (h_A S0) none z.2) args s 0 0 (h_A S0)) (F0 m 7 ls []) := by
  obtain ⟨-, hx, hb, hml, hown, hr, hlk, hK, hts⟩ := id C
  intro n
  induction n with
  | zero =>
    intro S a0 x1 x2 x3 _ _ _ h hV hl
    rw [fX7_leave_7] at h
    cases h
  | succ n ih =>
    intro S a0 x1 x2 x3 _ _ _ h hV hl
    rw [fX7_leave_7] at h
    refine hr_aload_n hx hb dX7_leave_7 rfl (hr_at hl 3 rfl) ?_
    refine hr_ifnull (tgt := 33) hx hb dX7_leave_8 (by decide) (fun c1 => ?_) (fun c1 => ?_)
    · rw [if_pos c1] at h
      exact h_vret hx hb hr hlk hV h (Nat.le_of_ble_eq_true rfl) (Nat.le_of_ble_eq_true rfl) dX7_leave_33
    · rw [if_neg c1] at h
      refine hr_aload_n hx hb dX7_leave_11 rfl (hr_at hl 3 rfl) ?_
      refine hr_aload_n hx hb dX7_leave_12 rfl (hr_at hl 1 rfl) ?_
      refine lv_acmp_ne (tgt := 23) hx hb dX7_leave_13 (by decide) (fun c2 => ?_) (fun c2 => ?_)
      · rw [if_neg c2] at h
        refine hr_aload_n hx hb dX7_leave_23 rfl (hr_at hl 3 rfl) ?_
        refine h_astore_n (tl' := [(2, .inr x3), (0, .inr (some a0)), (1, .inr x1), (3, .inr x3)]) hx hb dX7_leave_24 rfl hl (by decide) rfl (fun ls hl => ?_)
        refine hr_aload_n hx hb dX7_leave_25 rfl (hr_at hl 3 rfl) ?_
        obtain ⟨v3, g4, h5⟩ := hbind h; clear h
        refine h_gR hx hb hown hV g4 (flRX7_21 hts hK) dX7_leave_26 ?_
        refine h_astore_n (tl' := [(3, .inr v3), (2, .inr x3), (0, .inr (some a0)), (1, .inr x1)]) hx hb dX7_leave_29 rfl hl (by decide) rfl (fun ls hl => ?_)
        refine lv_goto (tgt := 7) hx hb dX7_leave_30 (by decide) ?_
        exact ih S a0 x1 x3 v3 _ _ _ h5 hV (hl_sub hl [2, 3, 1, 0] rfl)
      · rw [if_pos c2] at h
        refine hr_aload_n hx hb dX7_leave_16 rfl (hr_at hl 0 rfl) ?_
        refine hr_aload_n hx hb dX7_leave_17 rfl (hr_at hl 2 rfl) ?_
        refine hr_aload_n hx hb dX7_leave_18 rfl (hr_at hl 1 rfl) ?_
        obtain ⟨b8, g9, h10⟩ := hbind h; clear h
        obtain ⟨_, _, e11, q11⟩ := rcv_inv g9
        obtain ⟨r6, S7, g12, h13⟩ := hbn2 h10; clear h10
        refine h_callV (n := 2) (As := [va_rf x2, va_rf x1]) (rest := []) (st1 := []) (fr := 0) (lo := 0) (mc := 0) (ms := 0) C.1 hK hV q11 rfl rfl wd530 wd527 wd529 wd22 wd82 ⟨by decide, by decide, by decide⟩ ⟨(Nat.le_of_ble_eq_true rfl), (Nat.le_of_ble_eq_true rfl)⟩ rfl hl.1 (hW_ok [] (Nat.le_of_ble_eq_true rfl)) dX7_leave_19 ⟨(Nat.le_of_ble_eq_true rfl), (Nat.le_of_ble_eq_true rfl)⟩ rfl (by rw [e11]; rfl) (mX7_unlink l D fu S b8 x2 x1 _ g12) (fun H locs hV => ?_)
        exact h_vret hx hb hr hlk hV h13 (Nat.le_of_ble_eq_true rfl) (Nat.le_of_ble_eq_true rfl) dX7_leave_22
def fX7_leave (fu : Nat) (S : hS) (a0 : Nat) (x1 : Option Nat) : Option (Unit × hS) := (gR S 7 0 (some a0)).bind fun v1 => fX7_leave_7 fu fu S a0 x1 none v1
set_option maxHeartbeats 4000000 in
set_option maxRecDepth 100000 in
theorem mX7_leave (l : Launch) (D : hD) (fu : Nat) (S : hS) (a0 : Nat) (x1 : Option Nat) (z : Unit × hS) (h : fX7_leave fu S a0 x1 = some z) : hM l D yX7_leave cX7_leave 4 none 1 22 0 0 [va_rf (some a0), va_rf x1] S none z.2 := by
  refine h_body [.inr (some a0), .inr x1] RX7 (by decide) rfl (Nat.le_of_ble_eq_true rfl) ?_
  intro p e s m args below meth c C hin ls hV hl
  obtain ⟨-, hx, hb, hml, hown, hr, hlk, hK, hts⟩ := id C
  unfold fX7_leave at h
  refine h_null hx hb dX7_leave_0 ?_
  refine h_astore_n (tl' := [(2, .inr none), (0, .inr (some a0)), (1, .inr x1)]) hx hb dX7_leave_1 rfl hl (by decide) rfl (fun ls hl => ?_)
  refine hr_aload_n hx hb dX7_leave_2 rfl (hr_at hl 1 rfl) ?_
  obtain ⟨v1, g2, h3⟩ := hbind h; clear h
  refine h_gR hx hb hown hV g2 (flRX7_9 hts hK) dX7_leave_3 ?_
  refine h_astore_n (tl' := [(3, .inr v1), (2, .inr none), (0, .inr (some a0)), (1, .inr x1)]) hx hb dX7_leave_6 rfl hl (by decide) rfl (fun ls hl => ?_)
  exact kX7_leave_7 C fu fu S a0 x1 none v1 _ _ _ h3 hV (hl_sub hl [2, 3, 1, 0] rfl)
def fX7_countAheadOf_32 (fu : Nat) (k7 : hS → Option Nat → Int32 → Option Nat → Option (Int32 × hS)) (S : hS) (x1 : Option Nat) (x2 : Int32) (x3 : Option Nat) : Option (Int32 × hS) := (gR S 4 10 x3).bind fun v1 => k7 S x1 x2 v1
set_option maxHeartbeats 4000000 in
set_option maxRecDepth 100000 in
theorem kX7_countAheadOf_32 {p : Program} {l : Launch} {e : Env} {s : State} {m : MethodId} {args : Array Value} {below : List Frame} {meth : Method} {c : Code} {D : hD} {S0 : hS} {z : Int32 × hS} (C : hCx p m c cX7_countAheadOf 4 s args RX7 meth (some .int) D) (fu : Nat) (k7 : hS → Option Nat → Int32 → Option Nat → Option (Int32 × hS)) (hk7 : ∀ (S : hS) (x1 : Option Nat) (x2 : Int32) (x3 : Option Nat) (H : Heap) (locs : List Loc) (ls : Array Slot), k7 S x1 x2 x3 = some z → h_V D (h_A S0) s S H locs → hl_has ls 4 [(1, .inr x1), (2, .inl x2), (3, .inr x3)] → W p l e { frames := 0, cells := 0, slots := 0, locals := 0 } s m args below meth c H locs 0 0 (MQ below (h_Q D (h_A S0) (some (.int z.1)) z.2) args s 0 0 (h_A S0)) (F0 m 7 ls [])) : ∀ (S : hS) (x1 : Option Nat) (x2 : Int32) (x3 : Option Nat) (H : Heap) (locs : List Loc) (ls : Array Slot), fX7_countAheadOf_32 fu k7 S x1 x2 x3 = some z → h_V D (h_A S0) s S H locs → hl_has ls 4 [(1, .inr x1), (2, .inl x2), (3, .inr x3)] → W p l e { frames := 0, cells := 0, slots := 0, locals := 0 } s m args below meth c H locs 0 0 (MQ below (h_Q D (h_A S0) (some (.int z.1)) z.2) args s 0 0 (h_A S0)) (F0 m 32 ls []) := by
  obtain ⟨-, hx, hb, hml, hown, hr, hlk, hK, hts⟩ := id C
  intro S x1 x2 x3 _ _ _ h hV hl
  unfold fX7_countAheadOf_32 at h
  refine hr_aload_n hx hb dX7_countAheadOf_32 rfl (hr_at hl 2 rfl) ?_
  obtain ⟨v1, g2, h3⟩ := hbind h; clear h
  refine h_gR hx hb hown hV g2 (flRX7_21 hts hK) dX7_countAheadOf_33 ?_
  refine h_astore_n (tl' := [(3, .inr v1), (1, .inr x1), (2, .inl x2)]) hx hb dX7_countAheadOf_36 rfl hl (by decide) rfl (fun ls hl => ?_)
  refine lv_goto (tgt := 7) hx hb dX7_countAheadOf_37 (by decide) ?_
  exact hk7 S x1 x2 v1 _ _ _ h3 hV (hl_sub hl [1, 2, 0] rfl)
def fX7_countAheadOf_7 (fu : Nat) : Nat → hS → Option Nat → Int32 → Option Nat → Option (Int32 × hS)
  | 0, _, _, _, _ => none
  | n + 1, S, x1, x2, x3 => if x3 = none then (some ((-1 : Int32), S)) else (if x3 = x1 then (some (x2, S)) else ((gI S 4 4 x3).bind fun v3 =>
(gI S 4 4 x1).bind fun v6 =>
if v3 = v6 then (fX7_countAheadOf_32 fu (fX7_countAheadOf_7 fu n) S x1 (x2 + (1 : Int32)) x3) else (fX7_countAheadOf_32 fu (fX7_countAheadOf_7 fu n) S x1 x2 x3)))
set_option maxHeartbeats 4000000 in
set_option maxRecDepth 100000 in
theorem kX7_countAheadOf_7 {p : Program} {l : Launch} {e : Env} {s : State} {m : MethodId} {args : Array Value} {below : List Frame} {meth : Method} {c : Code} {D : hD} {S0 : hS} {z : Int32 × hS} (C : hCx p m c cX7_countAheadOf 4 s args RX7 meth (some .int) D) (fu : Nat) : ∀ (n : Nat) (S : hS) (x1 : Option Nat) (x2 : Int32) (x3 : Option Nat) (H : Heap) (locs : List Loc) (ls : Array Slot), fX7_countAheadOf_7 fu n S x1 x2 x3 = some z → h_V D (h_A S0) s S H locs → hl_has ls 4 [(1, .inr x1), (2, .inl x2), (3, .inr x3)] → W p l e { frames := 0, cells := 0, slots := 0, locals := 0 } s m args below meth c H locs 0 0 (MQ below (h_Q D (h_A S0) (some (.int z.1)) z.2) args s 0 0 (h_A S0)) (F0 m 7 ls []) := by
  obtain ⟨-, hx, hb, hml, hown, hr, hlk, hK, hts⟩ := id C
  intro n
  induction n with
  | zero =>
    intro S x1 x2 x3 _ _ _ h hV hl
    rw [fX7_countAheadOf_7] at h
    cases h
  | succ n ih =>
    intro S x1 x2 x3 _ _ _ h hV hl
    rw [fX7_countAheadOf_7] at h
    refine hr_aload_n hx hb dX7_countAheadOf_7 rfl (hr_at hl 2 rfl) ?_
    refine hr_ifnull (tgt := 40) hx hb dX7_countAheadOf_8 (by decide) (fun c1 => ?_) (fun c1 => ?_)
    · rw [if_pos c1] at h
      refine lv_iconst (v := -1) hx hb dX7_countAheadOf_40 (by decide) ?_
      exact h_iret hx hb hr hlk hV h (Nat.le_of_ble_eq_true rfl) (Nat.le_of_ble_eq_true rfl) dX7_countAheadOf_41
    · rw [if_neg c1] at h
      refine hr_aload_n hx hb dX7_countAheadOf_11 rfl (hr_at hl 2 rfl) ?_
      refine hr_aload_n hx hb dX7_countAheadOf_12 rfl (hr_at hl 0 rfl) ?_
      refine lv_acmp_ne (tgt := 18) hx hb dX7_countAheadOf_13 (by decide) (fun c2 => ?_) (fun c2 => ?_)
      · rw [if_neg c2] at h
        refine hr_aload_n hx hb dX7_countAheadOf_18 rfl (hr_at hl 2 rfl) ?_
        obtain ⟨v3, g4, h5⟩ := hbind h; clear h
        refine h_gI hx hb hown hV g4 (flRX7_15 hts hK) dX7_countAheadOf_19 ?_
        refine hr_aload_n hx hb dX7_countAheadOf_22 rfl (hr_at hl 0 rfl) ?_
        obtain ⟨v6, g7, h8⟩ := hbind h5; clear h5
        refine h_gI hx hb hown hV g7 (flRX7_15 hts hK) dX7_countAheadOf_23 ?_
        refine lv_icmp_ne (tgt := 32) hx hb dX7_countAheadOf_26 (by decide) (fun c9 => ?_) (fun c9 => ?_)
        · rw [if_neg c9] at h8
          exact kX7_countAheadOf_32 C fu (fX7_countAheadOf_7 fu n) ih S x1 x2 x3 _ _ _ h8 hV (hl_sub hl [0, 1, 2] rfl)
        · rw [if_pos c9] at h8
          refine h_iinc (v := (x2 + (1 : Int32))) (tl' := [(2, .inl (x2 + (1 : Int32))), (1, .inr x1), (3, .inr x3)]) hx hb dX7_countAheadOf_29 hl (k := 1) rfl rfl (by decide) rfl (fun ls hl => ?_)
          exact kX7_countAheadOf_32 C fu (fX7_countAheadOf_7 fu n) ih S x1 (x2 + (1 : Int32)) x3 _ _ _ h8 hV (hl_sub hl [1, 0, 2] rfl)
      · rw [if_pos c2] at h
        refine lv_iload_n hx hb dX7_countAheadOf_16 rfl (hi_at hl 1 rfl) ?_
        exact h_iret hx hb hr hlk hV h (Nat.le_of_ble_eq_true rfl) (Nat.le_of_ble_eq_true rfl) dX7_countAheadOf_17
def fX7_countAheadOf (fu : Nat) (S : hS) (a0 : Nat) (x1 : Option Nat) : Option (Int32 × hS) := (gR S 7 0 (some a0)).bind fun v1 => fX7_countAheadOf_7 fu fu S x1 (0 : Int32) v1
set_option maxHeartbeats 4000000 in
set_option maxRecDepth 100000 in
theorem mX7_countAheadOf (l : Launch) (D : hD) (fu : Nat) (S : hS) (a0 : Nat) (x1 : Option Nat) (z : Int32 × hS) (h : fX7_countAheadOf fu S a0 x1 = some z) : hM l D yX7_countAheadOf cX7_countAheadOf 4 (some .int) 0 0 0 0 [va_rf (some a0), va_rf x1] S (some (.int z.1)) z.2 := by
  refine h_body [.inr (some a0), .inr x1] RX7 (by decide) rfl (Nat.le_of_ble_eq_true rfl) ?_
  intro p e s m args below meth c C hin ls hV hl
  obtain ⟨-, hx, hb, hml, hown, hr, hlk, hK, hts⟩ := id C
  unfold fX7_countAheadOf at h
  refine lv_iconst (v := 0) hx hb dX7_countAheadOf_0 (by decide) ?_
  refine h_istore_n (tl' := [(2, .inl (0 : Int32)), (0, .inr (some a0)), (1, .inr x1)]) hx hb dX7_countAheadOf_1 rfl hl (by decide) rfl (fun ls hl => ?_)
  refine hr_aload_n hx hb dX7_countAheadOf_2 rfl (hr_at hl 1 rfl) ?_
  obtain ⟨v1, g2, h3⟩ := hbind h; clear h
  refine h_gR hx hb hown hV g2 (flRX7_9 hts hK) dX7_countAheadOf_3 ?_
  refine h_astore_n (tl' := [(3, .inr v1), (2, .inl (0 : Int32)), (0, .inr (some a0)), (1, .inr x1)]) hx hb dX7_countAheadOf_6 rfl hl (by decide) rfl (fun ls hl => ?_)
  exact kX7_countAheadOf_7 C fu fu S x1 (0 : Int32) v1 _ _ _ h3 hV (hl_sub hl [3, 1, 0] rfl)
def fX7_length_7 (fu : Nat) : Nat → hS → Int32 → Option Nat → Option (Int32 × hS)
  | 0, _, _, _ => none
  | n + 1, S, x1, x2 => if x2 = none then (some (x1, S)) else ((gR S 4 10 x2).bind fun v2 =>
fX7_length_7 fu n S (x1 + (1 : Int32)) v2)
set_option maxHeartbeats 4000000 in
set_option maxRecDepth 100000 in
theorem kX7_length_7 {p : Program} {l : Launch} {e : Env} {s : State} {m : MethodId} {args : Array Value} {below : List Frame} {meth : Method} {c : Code} {D : hD} {S0 : hS} {z : Int32 × hS} (C : hCx p m c cX7_length 3 s args RX7 meth (some .int) D) (fu : Nat) : ∀ (n : Nat) (S : hS) (x1 : Int32) (x2 : Option Nat) (H : Heap) (locs : List Loc) (ls : Array Slot), fX7_length_7 fu n S x1 x2 = some z → h_V D (h_A S0) s S H locs → hl_has ls 3 [(1, .inl x1), (2, .inr x2)] → W p l e { frames := 0, cells := 0, slots := 0, locals := 0 } s m args below meth c H locs 0 0 (MQ below (h_Q D (h_A S0) (some (.int z.1)) z.2) args s 0 0 (h_A S0)) (F0 m 7 ls []) := by
  obtain ⟨-, hx, hb, hml, hown, hr, hlk, hK, hts⟩ := id C
  intro n
  induction n with
  | zero =>
    intro S x1 x2 _ _ _ h hV hl
    rw [fX7_length_7] at h
    cases h
  | succ n ih =>
    intro S x1 x2 _ _ _ h hV hl
    rw [fX7_length_7] at h
    refine hr_aload_n hx hb dX7_length_7 rfl (hr_at hl 1 rfl) ?_
    refine hr_ifnull (tgt := 22) hx hb dX7_length_8 (by decide) (fun c1 => ?_) (fun c1 => ?_)
    · rw [if_pos c1] at h
      refine lv_iload_n hx hb dX7_length_22 rfl (hi_at hl 0 rfl) ?_
      exact h_iret hx hb hr hlk hV h (Nat.le_of_ble_eq_true rfl) (Nat.le_of_ble_eq_true rfl) dX7_length_23
    · rw [if_neg c1] at h
      refine h_iinc (v := (x1 + (1 : Int32))) (tl' := [(1, .inl (x1 + (1 : Int32))), (2, .inr x2)]) hx hb dX7_length_11 hl (k := 0) rfl rfl (by decide) rfl (fun ls hl => ?_)
      refine hr_aload_n hx hb dX7_length_14 rfl (hr_at hl 1 rfl) ?_
      obtain ⟨v2, g3, h4⟩ := hbind h; clear h
      refine h_gR hx hb hown hV g3 (flRX7_21 hts hK) dX7_length_15 ?_
      refine h_astore_n (tl' := [(2, .inr v2), (1, .inl (x1 + (1 : Int32)))]) hx hb dX7_length_18 rfl hl (by decide) rfl (fun ls hl => ?_)
      refine lv_goto (tgt := 7) hx hb dX7_length_19 (by decide) ?_
      exact ih S (x1 + (1 : Int32)) v2 _ _ _ h4 hV (hl_sub hl [1, 0] rfl)
def fX7_length (fu : Nat) (S : hS) (a0 : Nat) : Option (Int32 × hS) := (gR S 7 0 (some a0)).bind fun v1 => fX7_length_7 fu fu S (0 : Int32) v1
set_option maxHeartbeats 4000000 in
set_option maxRecDepth 100000 in
theorem mX7_length (l : Launch) (D : hD) (fu : Nat) (S : hS) (a0 : Nat) (z : Int32 × hS) (h : fX7_length fu S a0 = some z) : hM l D yX7_length cX7_length 3 (some .int) 0 0 0 0 [va_rf (some a0)] S (some (.int z.1)) z.2 := by
  refine h_body [.inr (some a0)] RX7 (by decide) rfl (Nat.le_of_ble_eq_true rfl) ?_
  intro p e s m args below meth c C hin ls hV hl
  obtain ⟨-, hx, hb, hml, hown, hr, hlk, hK, hts⟩ := id C
  unfold fX7_length at h
  refine lv_iconst (v := 0) hx hb dX7_length_0 (by decide) ?_
  refine h_istore_n (tl' := [(1, .inl (0 : Int32)), (0, .inr (some a0))]) hx hb dX7_length_1 rfl hl (by decide) rfl (fun ls hl => ?_)
  refine hr_aload_n hx hb dX7_length_2 rfl (hr_at hl 1 rfl) ?_
  obtain ⟨v1, g2, h3⟩ := hbind h; clear h
  refine h_gR hx hb hown hV g2 (flRX7_9 hts hK) dX7_length_3 ?_
  refine h_astore_n (tl' := [(2, .inr v1), (1, .inl (0 : Int32)), (0, .inr (some a0))]) hx hb dX7_length_6 rfl hl (by decide) rfl (fun ls hl => ?_)
  exact kX7_length_7 C fu fu S (0 : Int32) v1 _ _ _ h3 hV (hl_sub hl [1, 0] rfl)
def fX9_nearest (fu : Nat) (S : hS) (x0 : Int32) (x1 : Int32) (x2 : Int32) : Option (Int32 × hS) := some ((imx x1 (imn x2 x0)), S)
set_option maxHeartbeats 4000000 in
set_option maxRecDepth 100000 in
theorem mX9_nearest (l : Launch) (D : hD) (fu : Nat) (S : hS) (x0 : Int32) (x1 : Int32) (x2 : Int32) (z : Int32 × hS) (h : fX9_nearest fu S x0 x1 x2 = some z) : hM l D yX9_nearest cX9_nearest 3 (some .int) 1 14 0 0 [.int x0, .int x1, .int x2] S (some (.int z.1)) z.2 := by
  refine h_body [.inl x0, .inl x1, .inl x2] RX9 (by decide) rfl (Nat.le_of_ble_eq_true rfl) ?_
  intro p e s m args below meth c C hin ls hV hl
  obtain ⟨-, hx, hb, hml, hown, hr, hlk, hK, hts⟩ := id C
  unfold fX9_nearest at h
  refine lv_iload_n hx hb dX9_nearest_0 rfl (hi_at hl 1 rfl) ?_
  refine lv_iload_n hx hb dX9_nearest_1 rfl (hi_at hl 2 rfl) ?_
  refine lv_iload_n hx hb dX9_nearest_2 rfl (hi_at hl 0 rfl) ?_
  refine h_mmin hx hb (hml.trans hl.1.symm) hown hts wd104 wd105 wd80 wd106 (Nat.le_of_ble_eq_true rfl) (hW_okL [.inl x1] (Nat.le_of_ble_eq_true rfl)) (Nat.le_of_ble_eq_true rfl) (Nat.le_of_ble_eq_true rfl) dX9_nearest_3 ?_
  refine h_mmax hx hb (hml.trans hl.1.symm) hown hts wd107 wd108 wd80 wd109 (Nat.le_of_ble_eq_true rfl) (hW_okL [] (Nat.le_of_ble_eq_true rfl)) (Nat.le_of_ble_eq_true rfl) (Nat.le_of_ble_eq_true rfl) dX9_nearest_6 ?_
  exact h_iret hx hb hr hlk hV h (Nat.le_of_ble_eq_true rfl) (Nat.le_of_ble_eq_true rfl) dX9_nearest_9
def fX9_init (fu : Nat) (S : hS) (a0 : Nat) (x1 : Int32) (x2 : Int32) (x3 : Int32) : Option (Unit × hS) := bn2 (fX9_nearest fu (nO S 0) x1 (8 : Int32) (3000 : Int32)) fun r1 S2 => bn2 (fX0_init fu S2 S.2 r1) fun _ S6 => (pV S6 8 0 (some a0) (va_rf (some S.2))).bind fun S9 => bn2 (fX9_nearest fu S9 x2 (1 : Int32) (24 : Int32)) fun r12 S13 => bn2 (nA S13 12 24 r12 .null) fun v16 S17 => (pV S17 8 1 (some a0) (va_rf v16)).bind fun S20 => bn2 (fX7_init fu (nO S20 7) S20.2) fun _ S24 => (pV S24 8 2 (some a0) (va_rf (some S20.2))).bind fun S27 => bn2 (fX9_nearest fu S27 x3 (1 : Int32) (200 : Int32)) fun r30 S31 => (pV S31 8 3 (some a0) (.int r30)).bind fun S34 => some ((), S34)
set_option maxHeartbeats 4000000 in
set_option maxRecDepth 100000 in
theorem mX9_init (l : Launch) (D : hD) (fu : Nat) (S : hS) (a0 : Nat) (x1 : Int32) (x2 : Int32) (x3 : Int32) (z : Unit × hS) (h : fX9_init fu S a0 x1 x2 x3 = some z) : hM l D yX9_init cX9_init 4 none 3 53 5 3030 [va_rf (some a0), .int x1, .int x2, .int x3] S none z.2 := by
  refine h_body [.inr (some a0), .inl x1, .inl x2, .inl x3] RX9 (by decide) rfl (Nat.le_of_ble_eq_true rfl) ?_
  intro p e s m args below meth c C hin ls hV hl
  obtain ⟨-, hx, hb, hml, hown, hr, hlk, hK, hts⟩ := id C
  unfold fX9_init at h
  refine hr_aload_n hx hb dX9_init_0 rfl (hr_at hl 0 rfl) ?_
  refine h_oinit hx hb (hl.1.trans hml.symm) hown hts wd96 wd97 wd98 (Nat.le_of_ble_eq_true rfl) (hW_okL [] (Nat.le_of_ble_eq_true rfl)) dX9_init_1 ?_
  refine hr_aload_n hx hb dX9_init_4 rfl (hr_at hl 0 rfl) ?_
  refine h_new (ci := 0) (ty := tyX0) hx hb hts hK uwX0 tyX0_ok hown (hts _ wd99) (hts _ wd100) (hts _ wd79) rfl rfl hV (Nat.le_of_ble_eq_true rfl) (Nat.le_of_ble_eq_true rfl) dX9_init_5 (fun H hV => ?_)
  refine hr_dup hx hb dX9_init_8 ?_
  refine lv_iload_n hx hb dX9_init_9 rfl (hi_at hl 1 rfl) ?_
  refine lv_bipush (v := 8) hx hb dX9_init_10 (by decide) ?_
  refine lv_sipush (v := 3000) hx hb dX9_init_12 (by decide) ?_
  obtain ⟨r1, S2, g3, h4⟩ := hbn2 h; clear h
  refine h_callS (n := 3) (As := [.int x1, .int (8 : Int32), .int (3000 : Int32)]) (rest := [va_rf (some S.2), va_rf (some S.2), va_rf (some a0)]) (st1 := [.int r1, va_rf (some S.2), va_rf (some S.2), va_rf (some a0)]) (fr := 1) (lo := 14) (mc := 0) (ms := 0) C.1 hK hV wd103 wd101 wd102 wd78 ⟨by decide, by decide, by decide⟩ ⟨(Nat.le_of_ble_eq_true rfl), (Nat.le_of_ble_eq_true rfl)⟩ rfl hl.1 (hW_ok [.inr (some S.2), .inr (some S.2), .inr (some a0)] (Nat.le_of_ble_eq_true rfl)) dX9_init_15 ⟨(Nat.le_of_ble_eq_true rfl), (Nat.le_of_ble_eq_true rfl)⟩ rfl rfl (mX9_nearest l D fu (nO S 0) x1 (8 : Int32) (3000 : Int32) _ g3) (fun H locs hV => ?_)
  obtain ⟨r5, S6, g7, h8⟩ := hbn2 h4; clear h4
  refine h_callIN (b := S.2) (n := 1) (As := [.int r1]) (rest := [va_rf (some S.2), va_rf (some a0)]) (st1 := [va_rf (some S.2), va_rf (some a0)]) (fr := 2) (lo := 32) (mc := 2) (ms := 3003) C.1 hK hV wd112 (wo110 hK.2) wd111 wd79 rfl ⟨by decide, by decide, by decide⟩ ⟨(Nat.le_of_ble_eq_true rfl), (Nat.le_of_ble_eq_true rfl)⟩ rfl hl.1 (hW_ok [.inr (some S.2), .inr (some a0)] (Nat.le_of_ble_eq_true rfl)) dX9_init_18 ⟨(Nat.le_of_ble_eq_true rfl), (Nat.le_of_ble_eq_true rfl)⟩ rfl rfl (mX0_init l D fu S2 S.2 r1 _ g7) (fun H locs hV => ?_)
  obtain ⟨S9, g10, h11⟩ := hbind h8; clear h8
  refine h_put hx hb hown hV g10 (fpRX9_18 hts hK hown hin) (h_narO _) (h_fitO _) dX9_init_21 (fun H locs hV => ?_)
  refine hr_aload_n hx hb dX9_init_24 rfl (hr_at hl 0 rfl) ?_
  refine lv_iload_n hx hb dX9_init_25 rfl (hi_at hl 2 rfl) ?_
  refine lv_iconst (v := 1) hx hb dX9_init_26 (by decide) ?_
  refine lv_bipush (v := 24) hx hb dX9_init_27 (by decide) ?_
  obtain ⟨r12, S13, g14, h15⟩ := hbn2 h11; clear h11
  refine h_callS (n := 3) (As := [.int x2, .int (1 : Int32), .int (24 : Int32)]) (rest := [va_rf (some a0)]) (st1 := [.int r12, va_rf (some a0)]) (fr := 1) (lo := 14) (mc := 0) (ms := 0) C.1 hK hV wd103 wd101 wd102 wd78 ⟨by decide, by decide, by decide⟩ ⟨(Nat.le_of_ble_eq_true rfl), (Nat.le_of_ble_eq_true rfl)⟩ rfl hl.1 (hW_ok [.inr (some a0)] (Nat.le_of_ble_eq_true rfl)) dX9_init_29 ⟨(Nat.le_of_ble_eq_true rfl), (Nat.le_of_ble_eq_true rfl)⟩ rfl rfl (mX9_nearest l D fu S9 x2 (1 : Int32) (24 : Int32) _ g14) (fun H locs hV => ?_)
  obtain ⟨v16, S17, g18, h19⟩ := hbn2 h15; clear h15
  refine h_newq hx hb hK hown (hts _ wd150) (wo151 hK.2) hV g18 (by decide) (Nat.le_of_ble_eq_true rfl) (Nat.le_of_ble_eq_true rfl) dX9_init_32 (fun H hV => ?_)
  obtain ⟨S20, g21, h22⟩ := hbind h19; clear h19
  refine h_put hx hb hown hV g21 (fpRX9_24 hts hK hown hin) (h_narA _) (h_fitA _) dX9_init_35 (fun H locs hV => ?_)
  refine hr_aload_n hx hb dX9_init_38 rfl (hr_at hl 0 rfl) ?_
  refine h_new (ci := 7) (ty := tyX7) hx hb hts hK uwX7 tyX7_ok hown (hts _ wd152) (hts _ wd153) (hts _ wd82) rfl rfl hV (Nat.le_of_ble_eq_true rfl) (Nat.le_of_ble_eq_true rfl) dX9_init_39 (fun H hV => ?_)
  refine hr_dup hx hb dX9_init_42 ?_
  obtain ⟨r23, S24, g25, h26⟩ := hbn2 h22; clear h22
  refine h_callIN (b := S20.2) (n := 0) (As := []) (rest := [va_rf (some S20.2), va_rf (some a0)]) (st1 := [va_rf (some S20.2), va_rf (some a0)]) (fr := 1) (lo := 12) (mc := 0) (ms := 0) C.1 hK hV wd156 (wo154 hK.2) wd155 wd82 rfl ⟨by decide, by decide, by decide⟩ ⟨(Nat.le_of_ble_eq_true rfl), (Nat.le_of_ble_eq_true rfl)⟩ rfl hl.1 (hW_ok [.inr (some S20.2), .inr (some a0)] (Nat.le_of_ble_eq_true rfl)) dX9_init_43 ⟨(Nat.le_of_ble_eq_true rfl), (Nat.le_of_ble_eq_true rfl)⟩ rfl rfl (mX7_init l D fu (nO S20 7) S20.2 _ g25) (fun H locs hV => ?_)
  obtain ⟨S27, g28, h29⟩ := hbind h26; clear h26
  refine h_put hx hb hown hV g28 (fpRX9_31 hts hK hown hin) (h_narO _) (h_fitO _) dX9_init_46 (fun H locs hV => ?_)
  refine hr_aload_n hx hb dX9_init_49 rfl (hr_at hl 0 rfl) ?_
  refine lv_iload_n hx hb dX9_init_50 rfl (hi_at hl 3 rfl) ?_
  refine lv_iconst (v := 1) hx hb dX9_init_51 (by decide) ?_
  refine lv_sipush (v := 200) hx hb dX9_init_52 (by decide) ?_
  obtain ⟨r30, S31, g32, h33⟩ := hbn2 h29; clear h29
  refine h_callS (n := 3) (As := [.int x3, .int (1 : Int32), .int (200 : Int32)]) (rest := [va_rf (some a0)]) (st1 := [.int r30, va_rf (some a0)]) (fr := 1) (lo := 14) (mc := 0) (ms := 0) C.1 hK hV wd103 wd101 wd102 wd78 ⟨by decide, by decide, by decide⟩ ⟨(Nat.le_of_ble_eq_true rfl), (Nat.le_of_ble_eq_true rfl)⟩ rfl hl.1 (hW_ok [.inr (some a0)] (Nat.le_of_ble_eq_true rfl)) dX9_init_55 ⟨(Nat.le_of_ble_eq_true rfl), (Nat.le_of_ble_eq_true rfl)⟩ rfl rfl (mX9_nearest l D fu S27 x3 (1 : Int32) (200 : Int32) _ g32) (fun H locs hV => ?_)
  obtain ⟨S34, g35, h36⟩ := hbind h33; clear h33
  refine h_put hx hb hown hV g35 (fpRX9_35 hts hK hown hin) rfl rfl dX9_init_58 (fun H locs hV => ?_)
  exact h_vret hx hb hr hlk hV h36 (Nat.le_of_ble_eq_true rfl) (Nat.le_of_ble_eq_true rfl) dX9_init_61
def fX9_isBetween (fu : Nat) (S : hS) (x0 : Int32) (x1 : Int32) (x2 : Int32) : Option (Int32 × hS) := if x0 < x1 then ((zz (0 : Int32)).bind (fun v => some (v, S))) else (if x2 < x0 then ((zz (0 : Int32)).bind (fun v => some (v, S))) else ((zz (1 : Int32)).bind (fun v => some (v, S))))
set_option maxHeartbeats 4000000 in
set_option maxRecDepth 100000 in
theorem mX9_isBetween (l : Launch) (D : hD) (fu : Nat) (S : hS) (x0 : Int32) (x1 : Int32) (x2 : Int32) (z : Int32 × hS) (h : fX9_isBetween fu S x0 x1 x2 = some z) : hM l D yX9_isBetween cX9_isBetween 3 (some .boolean) 0 0 0 0 [.int x0, .int x1, .int x2] S (some (.int z.1)) z.2 := by
  refine h_body [.inl x0, .inl x1, .inl x2] RX9 (by decide) rfl (Nat.le_of_ble_eq_true rfl) ?_
  intro p e s m args below meth c C hin ls hV hl
  obtain ⟨-, hx, hb, hml, hown, hr, hlk, hK, hts⟩ := id C
  unfold fX9_isBetween at h
  refine lv_iload_n hx hb dX9_isBetween_0 rfl (hi_at hl 0 rfl) ?_
  refine lv_iload_n hx hb dX9_isBetween_1 rfl (hi_at hl 1 rfl) ?_
  refine lv_icmp_lt (tgt := 14) hx hb dX9_isBetween_2 (by decide) (fun c1 => ?_) (fun c1 => ?_)
  · rw [if_pos c1] at h
    refine lv_iconst (v := 0) hx hb dX9_isBetween_14 (by decide) ?_
    exact h_zret hx hb hr hlk hV h (Nat.le_of_ble_eq_true rfl) (Nat.le_of_ble_eq_true rfl) dX9_isBetween_15
  · rw [if_neg c1] at h
    refine lv_iload_n hx hb dX9_isBetween_5 rfl (hi_at hl 0 rfl) ?_
    refine lv_iload_n hx hb dX9_isBetween_6 rfl (hi_at hl 2 rfl) ?_
    refine lv_icmp_gt (tgt := 14) hx hb dX9_isBetween_7 (by decide) (fun c2 => ?_) (fun c2 => ?_)
    · rw [if_pos c2] at h
      refine lv_iconst (v := 0) hx hb dX9_isBetween_14 (by decide) ?_
      exact h_zret hx hb hr hlk hV h (Nat.le_of_ble_eq_true rfl) (Nat.le_of_ble_eq_true rfl) dX9_isBetween_15
    · rw [if_neg c2] at h
      refine lv_iconst (v := 1) hx hb dX9_isBetween_10 (by decide) ?_
      refine lv_goto (tgt := 15) hx hb dX9_isBetween_11 (by decide) ?_
      exact h_zret hx hb hr hlk hV h (Nat.le_of_ble_eq_true rfl) (Nat.le_of_ble_eq_true rfl) dX9_isBetween_15
def fX9_isCount (fu : Nat) (S : hS) (x0 : Int32) : Option (Int32 × hS) := bn2 (fX9_isBetween fu S x0 (0 : Int32) (1000 : Int32)) fun r1 S2 => (zz r1).bind (fun v => some (v, S2))
set_option maxHeartbeats 4000000 in
set_option maxRecDepth 100000 in
theorem mX9_isCount (l : Launch) (D : hD) (fu : Nat) (S : hS) (x0 : Int32) (z : Int32 × hS) (h : fX9_isCount fu S x0 = some z) : hM l D yX9_isCount cX9_isCount 1 (some .boolean) 1 22 0 0 [.int x0] S (some (.int z.1)) z.2 := by
  refine h_body [.inl x0] RX9 (by decide) rfl (Nat.le_of_ble_eq_true rfl) ?_
  intro p e s m args below meth c C hin ls hV hl
  obtain ⟨-, hx, hb, hml, hown, hr, hlk, hK, hts⟩ := id C
  unfold fX9_isCount at h
  refine lv_iload_n hx hb dX9_isCount_0 rfl (hi_at hl 0 rfl) ?_
  refine lv_iconst (v := 0) hx hb dX9_isCount_1 (by decide) ?_
  refine lv_sipush (v := 1000) hx hb dX9_isCount_2 (by decide) ?_
  obtain ⟨r1, S2, g3, h4⟩ := hbn2 h; clear h
  refine h_callS (n := 3) (As := [.int x0, .int (0 : Int32), .int (1000 : Int32)]) (rest := []) (st1 := [.int r1]) (fr := 0) (lo := 0) (mc := 0) (ms := 0) C.1 hK hV wd191 wd189 wd190 wd78 ⟨by decide, by decide, by decide⟩ ⟨(Nat.le_of_ble_eq_true rfl), (Nat.le_of_ble_eq_true rfl)⟩ rfl hl.1 (hW_ok [] (Nat.le_of_ble_eq_true rfl)) dX9_isCount_5 ⟨(Nat.le_of_ble_eq_true rfl), (Nat.le_of_ble_eq_true rfl)⟩ rfl rfl (mX9_isBetween l D fu S x0 (0 : Int32) (1000 : Int32) _ g3) (fun H locs hV => ?_)
  exact h_zret hx hb hr hlk hV h4 (Nat.le_of_ble_eq_true rfl) (Nat.le_of_ble_eq_true rfl) dX9_isCount_8
def fX9_isPriority (fu : Nat) (S : hS) (x0 : Int32) : Option (Int32 × hS) := bn2 (fX9_isBetween fu S x0 (0 : Int32) (3 : Int32)) fun r1 S2 => (zz r1).bind (fun v => some (v, S2))
set_option maxHeartbeats 4000000 in
set_option maxRecDepth 100000 in
theorem mX9_isPriority (l : Launch) (D : hD) (fu : Nat) (S : hS) (x0 : Int32) (z : Int32 × hS) (h : fX9_isPriority fu S x0 = some z) : hM l D yX9_isPriority cX9_isPriority 1 (some .boolean) 1 22 0 0 [.int x0] S (some (.int z.1)) z.2 := by
  refine h_body [.inl x0] RX9 (by decide) rfl (Nat.le_of_ble_eq_true rfl) ?_
  intro p e s m args below meth c C hin ls hV hl
  obtain ⟨-, hx, hb, hml, hown, hr, hlk, hK, hts⟩ := id C
  unfold fX9_isPriority at h
  refine lv_iload_n hx hb dX9_isPriority_0 rfl (hi_at hl 0 rfl) ?_
  refine lv_iconst (v := 0) hx hb dX9_isPriority_1 (by decide) ?_
  refine lv_iconst (v := 3) hx hb dX9_isPriority_2 (by decide) ?_
  obtain ⟨r1, S2, g3, h4⟩ := hbn2 h; clear h
  refine h_callS (n := 3) (As := [.int x0, .int (0 : Int32), .int (3 : Int32)]) (rest := []) (st1 := [.int r1]) (fr := 0) (lo := 0) (mc := 0) (ms := 0) C.1 hK hV wd191 wd189 wd190 wd78 ⟨by decide, by decide, by decide⟩ ⟨(Nat.le_of_ble_eq_true rfl), (Nat.le_of_ble_eq_true rfl)⟩ rfl hl.1 (hW_ok [] (Nat.le_of_ble_eq_true rfl)) dX9_isPriority_3 ⟨(Nat.le_of_ble_eq_true rfl), (Nat.le_of_ble_eq_true rfl)⟩ rfl rfl (mX9_isBetween l D fu S x0 (0 : Int32) (3 : Int32) _ g3) (fun H locs hV => ?_)
  exact h_zret hx hb hr hlk hV h4 (Nat.le_of_ble_eq_true rfl) (Nat.le_of_ble_eq_true rfl) dX9_isPriority_6
def fX9_leastFreeNumber_2 (fu : Nat) : Nat → hS → Nat → Int32 → Option (Int32 × hS)
  | 0, _, _, _ => none
  | n + 1, S, a0, x1 => (gR S 8 1 (some a0)).bind fun v1 => (aL S 12 v1).bind fun v4 => if v4 ≤ x1 then (some ((-1 : Int32), S)) else ((gR S 8 1 (some a0)).bind fun v8 =>
(aR S v8 x1).bind fun v11 =>
if v11 = none then (some (x1, S)) else (fX9_leastFreeNumber_2 fu n S a0 (x1 + (1 : Int32))))
set_option maxHeartbeats 4000000 in
set_option maxRecDepth 100000 in
theorem kX9_leastFreeNumber_2 {p : Program} {l : Launch} {e : Env} {s : State} {m : MethodId} {args : Array Value} {below : List Frame} {meth : Method} {c : Code} {D : hD} {S0 : hS} {z : Int32 × hS} (C : hCx p m c cX9_leastFreeNumber 2 s args RX9 meth (some .int) D) (fu : Nat) : ∀ (n : Nat) (S : hS) (a0 : Nat) (x1 : Int32) (H : Heap) (locs : List Loc) (ls : Array Slot), fX9_leastFreeNumber_2 fu n S a0 x1 = some z → h_V D (h_A S0) s S H locs → hl_has ls 2 [(0, .inr (some a0)), (1, .inl x1)] → W p l e { frames := 0, cells := 0, slots := 0, locals := 0 } s m args below meth c H locs 0 0 (MQ below (h_Q D (h_A S0) (some (.int z.1)) z.2) args s 0 0 (h_A S0)) (F0 m 2 ls []) := by
  obtain ⟨-, hx, hb, hml, hown, hr, hlk, hK, hts⟩ := id C
  intro n
  induction n with
  | zero =>
    intro S a0 x1 _ _ _ h hV hl
    rw [fX9_leastFreeNumber_2] at h
    cases h
  | succ n ih =>
    intro S a0 x1 _ _ _ h hV hl
    rw [fX9_leastFreeNumber_2] at h
    refine lv_iload_n hx hb dX9_leastFreeNumber_2 rfl (hi_at hl 1 rfl) ?_
    refine hr_aload_n hx hb dX9_leastFreeNumber_3 rfl (hr_at hl 0 rfl) ?_
    obtain ⟨v1, g2, h3⟩ := hbind h; clear h
    refine h_gR hx hb hown hV g2 (flRX9_24 hts hK) dX9_leastFreeNumber_4 ?_
    obtain ⟨v4, g5, h6⟩ := hbind h3; clear h3
    refine h_alen hx hb hK hV (by decide) g5 dX9_leastFreeNumber_7 ?_
    refine lv_icmp_ge (tgt := 28) hx hb dX9_leastFreeNumber_8 (by decide) (fun c7 => ?_) (fun c7 => ?_)
    · rw [if_pos c7] at h6
      refine lv_iconst (v := -1) hx hb dX9_leastFreeNumber_28 (by decide) ?_
      exact h_iret hx hb hr hlk hV h6 (Nat.le_of_ble_eq_true rfl) (Nat.le_of_ble_eq_true rfl) dX9_leastFreeNumber_29
    · rw [if_neg c7] at h6
      refine hr_aload_n hx hb dX9_leastFreeNumber_11 rfl (hr_at hl 0 rfl) ?_
      obtain ⟨v8, g9, h10⟩ := hbind h6; clear h6
      refine h_gR hx hb hown hV g9 (flRX9_24 hts hK) dX9_leastFreeNumber_12 ?_
      refine lv_iload_n hx hb dX9_leastFreeNumber_15 rfl (hi_at hl 1 rfl) ?_
      obtain ⟨v11, g12, h13⟩ := hbind h10; clear h10
      refine h_aald hx hb hK hV g12 dX9_leastFreeNumber_16 ?_
      refine hr_ifnonnull (tgt := 22) hx hb dX9_leastFreeNumber_17 (by decide) (fun c14 => ?_) (fun c14 => ?_)
      · rw [if_neg c14] at h13
        refine h_iinc (v := (x1 + (1 : Int32))) (tl' := [(1, .inl (x1 + (1 : Int32))), (0, .inr (some a0))]) hx hb dX9_leastFreeNumber_22 hl (k := 1) rfl rfl (by decide) rfl (fun ls hl => ?_)
        refine lv_goto (tgt := 2) hx hb dX9_leastFreeNumber_25 (by decide) ?_
        exact ih S a0 (x1 + (1 : Int32)) _ _ _ h13 hV (hl_sub hl [1, 0] rfl)
      · rw [if_pos c14] at h13
        refine lv_iload_n hx hb dX9_leastFreeNumber_20 rfl (hi_at hl 1 rfl) ?_
        exact h_iret hx hb hr hlk hV h13 (Nat.le_of_ble_eq_true rfl) (Nat.le_of_ble_eq_true rfl) dX9_leastFreeNumber_21
def fX9_leastFreeNumber (fu : Nat) (S : hS) (a0 : Nat) : Option (Int32 × hS) := fX9_leastFreeNumber_2 fu fu S a0 (0 : Int32)
set_option maxHeartbeats 4000000 in
set_option maxRecDepth 100000 in
theorem mX9_leastFreeNumber (l : Launch) (D : hD) (fu : Nat) (S : hS) (a0 : Nat) (z : Int32 × hS) (h : fX9_leastFreeNumber fu S a0 = some z) : hM l D yX9_leastFreeNumber cX9_leastFreeNumber 2 (some .int) 0 0 0 0 [va_rf (some a0)] S (some (.int z.1)) z.2 := by
  refine h_body [.inr (some a0)] RX9 (by decide) rfl (Nat.le_of_ble_eq_true rfl) ?_
  intro p e s m args below meth c C hin ls hV hl
  obtain ⟨-, hx, hb, hml, hown, hr, hlk, hK, hts⟩ := id C
  unfold fX9_leastFreeNumber at h
  refine lv_iconst (v := 0) hx hb dX9_leastFreeNumber_0 (by decide) ?_
  refine h_istore_n (tl' := [(1, .inl (0 : Int32)), (0, .inr (some a0))]) hx hb dX9_leastFreeNumber_1 rfl hl (by decide) rfl (fun ls hl => ?_)
  exact kX9_leastFreeNumber_2 C fu fu S a0 (0 : Int32) _ _ _ h hV (hl_sub hl [1, 0] rfl)
def fX9_bufferSize (fu : Nat) (S : hS) (x0 : Int32) (x1 : Int32) : Option (Int32 × hS) := if x0 = (2 : Int32) then (some (x1, S)) else (if x0 = (4 : Int32) then (some ((24 : Int32), S)) else (some ((0 : Int32), S)))
set_option maxHeartbeats 4000000 in
set_option maxRecDepth 100000 in
theorem mX9_bufferSize (l : Launch) (D : hD) (fu : Nat) (S : hS) (x0 : Int32) (x1 : Int32) (z : Int32 × hS) (h : fX9_bufferSize fu S x0 x1 = some z) : hM l D yX9_bufferSize cX9_bufferSize 2 (some .int) 0 0 0 0 [.int x0, .int x1] S (some (.int z.1)) z.2 := by
  refine h_body [.inl x0, .inl x1] RX9 (by decide) rfl (Nat.le_of_ble_eq_true rfl) ?_
  intro p e s m args below meth c C hin ls hV hl
  obtain ⟨-, hx, hb, hml, hown, hr, hlk, hK, hts⟩ := id C
  unfold fX9_bufferSize at h
  refine lv_iload_n hx hb dX9_bufferSize_0 rfl (hi_at hl 0 rfl) ?_
  refine lv_iconst (v := 2) hx hb dX9_bufferSize_1 (by decide) ?_
  refine lv_icmp_ne (tgt := 7) hx hb dX9_bufferSize_2 (by decide) (fun c1 => ?_) (fun c1 => ?_)
  · rw [if_neg c1] at h
    refine lv_iload_n hx hb dX9_bufferSize_7 rfl (hi_at hl 0 rfl) ?_
    refine lv_iconst (v := 4) hx hb dX9_bufferSize_8 (by decide) ?_
    refine lv_icmp_ne (tgt := 17) hx hb dX9_bufferSize_9 (by decide) (fun c2 => ?_) (fun c2 => ?_)
    · rw [if_neg c2] at h
      refine lv_iconst (v := 0) hx hb dX9_bufferSize_17 (by decide) ?_
      exact h_iret hx hb hr hlk hV h (Nat.le_of_ble_eq_true rfl) (Nat.le_of_ble_eq_true rfl) dX9_bufferSize_18
    · rw [if_pos c2] at h
      refine lv_bipush (v := 24) hx hb dX9_bufferSize_12 (by decide) ?_
      refine lv_goto (tgt := 18) hx hb dX9_bufferSize_14 (by decide) ?_
      exact h_iret hx hb hr hlk hV h (Nat.le_of_ble_eq_true rfl) (Nat.le_of_ble_eq_true rfl) dX9_bufferSize_18
  · rw [if_pos c1] at h
    refine lv_iload_n hx hb dX9_bufferSize_5 rfl (hi_at hl 1 rfl) ?_
    exact h_iret hx hb hr hlk hV h (Nat.le_of_ble_eq_true rfl) (Nat.le_of_ble_eq_true rfl) dX9_bufferSize_6
def fX9_takeCellsAndBuffer (fu : Nat) (S : hS) (a0 : Nat) (x1 : Option Nat) (x2 : Int32) : Option (Int32 × hS) := (gR S 8 0 (some a0)).bind fun v1 => (gR S 4 2 x1).bind fun v4 => (rcv S 0 v1).bind fun b9 => bn2 (fX0_take fu S b9 v4 x2) fun r7 S8 => if r7 = 0 then ((zz (0 : Int32)).bind (fun v => some (v, S8))) else ((gR S8 8 0 (some a0)).bind fun v16 =>
(gR S8 4 3 x1).bind fun v19 =>
(gI S8 4 1 x1).bind fun v22 =>
bn2 (fX9_bufferSize fu S8 v22 x2) fun r25 S26 =>
(rcv S26 0 v16).bind fun b31 =>
bn2 (fX0_take fu S26 b31 v19 r25) fun r29 S30 =>
if r29 = 0 then ((gR S30 8 0 (some a0)).bind fun v38 =>
(gR S30 4 2 x1).bind fun v41 =>
(rcv S30 0 v38).bind fun b46 =>
bn2 (fX0_giveBack fu S30 b46 v41) fun _ S45 =>
(zz (0 : Int32)).bind (fun v => some (v, S45))) else ((zz (1 : Int32)).bind (fun v => some (v, S30))))
set_option maxHeartbeats 4000000 in
set_option maxRecDepth 100000 in
theorem mX9_takeCellsAndBuffer (l : Launch) (D : hD) (fu : Nat) (S : hS) (a0 : Nat) (x1 : Option Nat) (x2 : Int32) (z : Int32 × hS) (h : fX9_takeCellsAndBuffer fu S a0 x1 x2 = some z) : hM l D yX9_takeCellsAndBuffer cX9_takeCellsAndBuffer 3 (some .boolean) 3 65 0 0 [va_rf (some a0), va_rf x1, .int x2] S (some (.int z.1)) z.2 := by
  refine h_body [.inr (some a0), .inr x1, .inl x2] RX9 (by decide) rfl (Nat.le_of_ble_eq_true rfl) ?_
  intro p e s m args below meth c C hin ls hV hl
  obtain ⟨-, hx, hb, hml, hown, hr, hlk, hK, hts⟩ := id C
  unfold fX9_takeCellsAndBuffer at h
  refine hr_aload_n hx hb dX9_takeCellsAndBuffer_0 rfl (hr_at hl 0 rfl) ?_
  obtain ⟨v1, g2, h3⟩ := hbind h; clear h
  refine h_gR hx hb hown hV g2 (flRX9_18 hts hK) dX9_takeCellsAndBuffer_1 ?_
  refine hr_aload_n hx hb dX9_takeCellsAndBuffer_4 rfl (hr_at hl 1 rfl) ?_
  obtain ⟨v4, g5, h6⟩ := hbind h3; clear h3
  refine h_gR hx hb hown hV g5 (flRX9_61 hts hK) dX9_takeCellsAndBuffer_5 ?_
  refine lv_iload_n hx hb dX9_takeCellsAndBuffer_8 rfl (hi_at hl 2 rfl) ?_
  obtain ⟨b9, g10, h11⟩ := hbind h6; clear h6
  obtain ⟨_, _, e12, q12⟩ := rcv_inv g10
  obtain ⟨r7, S8, g13, h14⟩ := hbn2 h11; clear h11
  refine h_callVN (n := 2) (As := [va_rf v4, .int x2]) (rest := []) (st1 := [.int r7]) (fr := 2) (lo := 42) (mc := 0) (ms := 0) C.1 hK hV q12 rfl rfl wd258 (wo255 hK.2) wd257 wd2 wd79 ⟨by decide, by decide, by decide⟩ ⟨(Nat.le_of_ble_eq_true rfl), (Nat.le_of_ble_eq_true rfl)⟩ rfl hl.1 (hW_ok [] (Nat.le_of_ble_eq_true rfl)) dX9_takeCellsAndBuffer_9 ⟨(Nat.le_of_ble_eq_true rfl), (Nat.le_of_ble_eq_true rfl)⟩ rfl (by rw [e12]; rfl) (mX0_take l D fu S b9 v4 x2 _ g13) (fun H locs hV => ?_)
  refine lv_if_ne (tgt := 17) hx hb dX9_takeCellsAndBuffer_12 (by decide) (fun c15 => ?_) (fun c15 => ?_)
  · rw [if_neg c15] at h14
    refine hr_aload_n hx hb dX9_takeCellsAndBuffer_17 rfl (hr_at hl 0 rfl) ?_
    obtain ⟨v16, g17, h18⟩ := hbind h14; clear h14
    refine h_gR hx hb hown hV g17 (flRX9_18 hts hK) dX9_takeCellsAndBuffer_18 ?_
    refine hr_aload_n hx hb dX9_takeCellsAndBuffer_21 rfl (hr_at hl 1 rfl) ?_
    obtain ⟨v19, g20, h21⟩ := hbind h18; clear h18
    refine h_gR hx hb hown hV g20 (flRX9_133 hts hK) dX9_takeCellsAndBuffer_22 ?_
    refine hr_aload_n hx hb dX9_takeCellsAndBuffer_25 rfl (hr_at hl 1 rfl) ?_
    obtain ⟨v22, g23, h24⟩ := hbind h21; clear h21
    refine h_gI hx hb hown hV g23 (flRX9_142 hts hK) dX9_takeCellsAndBuffer_26 ?_
    refine lv_iload_n hx hb dX9_takeCellsAndBuffer_29 rfl (hi_at hl 2 rfl) ?_
    obtain ⟨r25, S26, g27, h28⟩ := hbn2 h24; clear h24
    refine h_callS (n := 2) (As := [.int v22, .int x2]) (rest := [va_rf v19, va_rf v16]) (st1 := [.int r25, va_rf v19, va_rf v16]) (fr := 0) (lo := 0) (mc := 0) (ms := 0) C.1 hK hV wd273 wd271 wd272 wd78 ⟨by decide, by decide, by decide⟩ ⟨(Nat.le_of_ble_eq_true rfl), (Nat.le_of_ble_eq_true rfl)⟩ rfl hl.1 (hW_ok [.inr v19, .inr v16] (Nat.le_of_ble_eq_true rfl)) dX9_takeCellsAndBuffer_30 ⟨(Nat.le_of_ble_eq_true rfl), (Nat.le_of_ble_eq_true rfl)⟩ rfl rfl (mX9_bufferSize l D fu S8 v22 x2 _ g27) (fun H locs hV => ?_)
    obtain ⟨b31, g32, h33⟩ := hbind h28; clear h28
    obtain ⟨_, _, e34, q34⟩ := rcv_inv g32
    obtain ⟨r29, S30, g35, h36⟩ := hbn2 h33; clear h33
    refine h_callVN (n := 2) (As := [va_rf v19, .int r25]) (rest := []) (st1 := [.int r29]) (fr := 2) (lo := 42) (mc := 0) (ms := 0) C.1 hK hV q34 rfl rfl wd258 (wo255 hK.2) wd257 wd2 wd79 ⟨by decide, by decide, by decide⟩ ⟨(Nat.le_of_ble_eq_true rfl), (Nat.le_of_ble_eq_true rfl)⟩ rfl hl.1 (hW_ok [] (Nat.le_of_ble_eq_true rfl)) dX9_takeCellsAndBuffer_33 ⟨(Nat.le_of_ble_eq_true rfl), (Nat.le_of_ble_eq_true rfl)⟩ rfl (by rw [e34]; rfl) (mX0_take l D fu S26 b31 v19 r25 _ g35) (fun H locs hV => ?_)
    refine lv_if_ne (tgt := 52) hx hb dX9_takeCellsAndBuffer_36 (by decide) (fun c37 => ?_) (fun c37 => ?_)
    · rw [if_neg c37] at h36
      refine lv_iconst (v := 1) hx hb dX9_takeCellsAndBuffer_52 (by decide) ?_
      exact h_zret hx hb hr hlk hV h36 (Nat.le_of_ble_eq_true rfl) (Nat.le_of_ble_eq_true rfl) dX9_takeCellsAndBuffer_53
    · rw [if_pos c37] at h36
      refine hr_aload_n hx hb dX9_takeCellsAndBuffer_39 rfl (hr_at hl 0 rfl) ?_
      obtain ⟨v38, g39, h40⟩ := hbind h36; clear h36
      refine h_gR hx hb hown hV g39 (flRX9_18 hts hK) dX9_takeCellsAndBuffer_40 ?_
      refine hr_aload_n hx hb dX9_takeCellsAndBuffer_43 rfl (hr_at hl 1 rfl) ?_
      obtain ⟨v41, g42, h43⟩ := hbind h40; clear h40
      refine h_gR hx hb hown hV g42 (flRX9_61 hts hK) dX9_takeCellsAndBuffer_44 ?_
      obtain ⟨b46, g47, h48⟩ := hbind h43; clear h43
      obtain ⟨_, _, e49, q49⟩ := rcv_inv g47
      obtain ⟨r44, S45, g50, h51⟩ := hbn2 h48; clear h48
      refine h_callVN (n := 1) (As := [va_rf v41]) (rest := []) (st1 := []) (fr := 0) (lo := 0) (mc := 0) (ms := 0) C.1 hK hV q49 rfl rfl wd277 (wo274 hK.2) wd276 wd6 wd79 ⟨by decide, by decide, by decide⟩ ⟨(Nat.le_of_ble_eq_true rfl), (Nat.le_of_ble_eq_true rfl)⟩ rfl hl.1 (hW_ok [] (Nat.le_of_ble_eq_true rfl)) dX9_takeCellsAndBuffer_47 ⟨(Nat.le_of_ble_eq_true rfl), (Nat.le_of_ble_eq_true rfl)⟩ rfl (by rw [e49]; rfl) (mX0_giveBack l D fu S30 b46 v41 _ g50) (fun H locs hV => ?_)
      refine lv_iconst (v := 0) hx hb dX9_takeCellsAndBuffer_50 (by decide) ?_
      exact h_zret hx hb hr hlk hV h51 (Nat.le_of_ble_eq_true rfl) (Nat.le_of_ble_eq_true rfl) dX9_takeCellsAndBuffer_51
  · rw [if_pos c15] at h14
    refine lv_iconst (v := 0) hx hb dX9_takeCellsAndBuffer_15 (by decide) ?_
    exact h_zret hx hb hr hlk hV h14 (Nat.le_of_ble_eq_true rfl) (Nat.le_of_ble_eq_true rfl) dX9_takeCellsAndBuffer_16
def fX9_open (fu : Nat) (S : hS) (a0 : Nat) (x1 : Int32) (x2 : Int32) (x3 : Int32) : Option (Int32 × hS) := bn2 (fX9_isCount fu S x1) fun r1 S2 => if r1 = 0 then (some ((-4 : Int32), S2)) else (bn2 (fX9_isBetween fu S2 x2 (0 : Int32) (4 : Int32)) fun r6 S7 =>
if r6 = 0 then (some ((-4 : Int32), S7)) else (bn2 (fX9_isPriority fu S7 x3) fun r11 S12 =>
if r11 = 0 then (some ((-4 : Int32), S12)) else ((rcv S12 8 (some a0)).bind fun b18 =>
bn2 (fX9_leastFreeNumber fu S12 b18) fun r16 S17 =>
if r16 < 0 then (some ((-5 : Int32), S17)) else ((gR S17 8 1 (some a0)).bind fun v25 =>
(aL S17 12 v25).bind fun v28 =>
if r16 < v28 then (bn2 (fX4_init fu (nO S17 4) S17.2 r16 x2 x3) fun _ S33 =>
(rcv S33 8 (some a0)).bind fun b38 =>
bn2 (fX9_takeCellsAndBuffer fu S33 b38 (some S17.2) x1) fun r36 S37 =>
if r36 = 0 then (some ((-6 : Int32), S37)) else ((gR S37 8 0 (some a0)).bind fun v45 =>
(gR S37 4 2 (some S17.2)).bind fun v48 =>
(gI S37 1 0 v48).bind fun v51 =>
(rcv S37 0 v45).bind fun b56 =>
bn2 (fX0_clear fu S37 b56 v51 x1) fun _ S55 =>
(gR S55 8 1 (some a0)).bind fun v62 =>
(sR S55 v62 r16 (some S17.2)).bind fun S65 =>
some (r16, S65))) else (some ((-5 : Int32), S17))))))
set_option maxHeartbeats 4000000 in
set_option maxRecDepth 100000 in
theorem mX9_open (l : Launch) (D : hD) (fu : Nat) (S : hS) (a0 : Nat) (x1 : Int32) (x2 : Int32) (x3 : Int32) (z : Int32 × hS) (h : fX9_open fu S a0 x1 x2 x3 = some z) : hM l D yX9_open cX9_open 6 (some .int) 4 87 3 17 [va_rf (some a0), .int x1, .int x2, .int x3] S (some (.int z.1)) z.2 := by
  refine h_body [.inr (some a0), .inl x1, .inl x2, .inl x3] RX9 (by decide) rfl (Nat.le_of_ble_eq_true rfl) ?_
  intro p e s m args below meth c C hin ls hV hl
  obtain ⟨-, hx, hb, hml, hown, hr, hlk, hK, hts⟩ := id C
  unfold fX9_open at h
  refine lv_iload_n hx hb dX9_open_0 rfl (hi_at hl 1 rfl) ?_
  obtain ⟨r1, S2, g3, h4⟩ := hbn2 h; clear h
  refine h_callS (n := 1) (As := [.int x1]) (rest := []) (st1 := [.int r1]) (fr := 1) (lo := 22) (mc := 0) (ms := 0) C.1 hK hV wd188 wd186 wd187 wd78 ⟨by decide, by decide, by decide⟩ ⟨(Nat.le_of_ble_eq_true rfl), (Nat.le_of_ble_eq_true rfl)⟩ rfl hl.1 (hW_ok [] (Nat.le_of_ble_eq_true rfl)) dX9_open_1 ⟨(Nat.le_of_ble_eq_true rfl), (Nat.le_of_ble_eq_true rfl)⟩ rfl rfl (mX9_isCount l D fu S x1 _ g3) (fun H locs hV => ?_)
  refine lv_if_eq (tgt := 23) hx hb dX9_open_4 (by decide) (fun c5 => ?_) (fun c5 => ?_)
  · rw [if_pos c5] at h4
    refine lv_bipush (v := -4) hx hb dX9_open_23 (by decide) ?_
    exact h_iret hx hb hr hlk hV h4 (Nat.le_of_ble_eq_true rfl) (Nat.le_of_ble_eq_true rfl) dX9_open_25
  · rw [if_neg c5] at h4
    refine lv_iload_n hx hb dX9_open_7 rfl (hi_at hl 2 rfl) ?_
    refine lv_iconst (v := 0) hx hb dX9_open_8 (by decide) ?_
    refine lv_iconst (v := 4) hx hb dX9_open_9 (by decide) ?_
    obtain ⟨r6, S7, g8, h9⟩ := hbn2 h4; clear h4
    refine h_callS (n := 3) (As := [.int x2, .int (0 : Int32), .int (4 : Int32)]) (rest := []) (st1 := [.int r6]) (fr := 0) (lo := 0) (mc := 0) (ms := 0) C.1 hK hV wd191 wd189 wd190 wd78 ⟨by decide, by decide, by decide⟩ ⟨(Nat.le_of_ble_eq_true rfl), (Nat.le_of_ble_eq_true rfl)⟩ rfl hl.1 (hW_ok [] (Nat.le_of_ble_eq_true rfl)) dX9_open_10 ⟨(Nat.le_of_ble_eq_true rfl), (Nat.le_of_ble_eq_true rfl)⟩ rfl rfl (mX9_isBetween l D fu S2 x2 (0 : Int32) (4 : Int32) _ g8) (fun H locs hV => ?_)
    refine lv_if_eq (tgt := 23) hx hb dX9_open_13 (by decide) (fun c10 => ?_) (fun c10 => ?_)
    · rw [if_pos c10] at h9
      refine lv_bipush (v := -4) hx hb dX9_open_23 (by decide) ?_
      exact h_iret hx hb hr hlk hV h9 (Nat.le_of_ble_eq_true rfl) (Nat.le_of_ble_eq_true rfl) dX9_open_25
    · rw [if_neg c10] at h9
      refine lv_iload_n hx hb dX9_open_16 rfl (hi_at hl 3 rfl) ?_
      obtain ⟨r11, S12, g13, h14⟩ := hbn2 h9; clear h9
      refine h_callS (n := 1) (As := [.int x3]) (rest := []) (st1 := [.int r11]) (fr := 1) (lo := 22) (mc := 0) (ms := 0) C.1 hK hV wd194 wd192 wd193 wd78 ⟨by decide, by decide, by decide⟩ ⟨(Nat.le_of_ble_eq_true rfl), (Nat.le_of_ble_eq_true rfl)⟩ rfl hl.1 (hW_ok [] (Nat.le_of_ble_eq_true rfl)) dX9_open_17 ⟨(Nat.le_of_ble_eq_true rfl), (Nat.le_of_ble_eq_true rfl)⟩ rfl rfl (mX9_isPriority l D fu S7 x3 _ g13) (fun H locs hV => ?_)
      refine lv_if_ne (tgt := 26) hx hb dX9_open_20 (by decide) (fun c15 => ?_) (fun c15 => ?_)
      · rw [if_neg c15] at h14
        refine hr_aload_n hx hb dX9_open_26 rfl (hr_at hl 0 rfl) ?_
        obtain ⟨b18, g19, h20⟩ := hbind h14; clear h14
        obtain ⟨_, _, e21, q21⟩ := rcv_inv g19
        obtain ⟨r16, S17, g22, h23⟩ := hbn2 h20; clear h20
        refine h_callV (n := 0) (As := []) (rest := []) (st1 := [.int r16]) (fr := 0) (lo := 0) (mc := 0) (ms := 0) C.1 hK hV q21 rfl rfl wd198 wd195 wd197 wd0 wd78 ⟨by decide, by decide, by decide⟩ ⟨(Nat.le_of_ble_eq_true rfl), (Nat.le_of_ble_eq_true rfl)⟩ rfl hl.1 (hW_ok [] (Nat.le_of_ble_eq_true rfl)) dX9_open_27 ⟨(Nat.le_of_ble_eq_true rfl), (Nat.le_of_ble_eq_true rfl)⟩ rfl (by rw [e21]; rfl) (mX9_leastFreeNumber l D fu S12 b18 _ g22) (fun H locs hV => ?_)
        refine h_istore (tl' := [(4, .inl r16), (0, .inr (some a0)), (1, .inl x1), (2, .inl x2), (3, .inl x3)]) hx hb dX9_open_30 hl (by decide) rfl (fun ls hl => ?_)
        refine lv_iload hx hb dX9_open_32 (hi_at hl 0 rfl) ?_
        refine lv_if_lt (tgt := 47) hx hb dX9_open_34 (by decide) (fun c24 => ?_) (fun c24 => ?_)
        · rw [if_pos c24] at h23
          refine lv_bipush (v := -5) hx hb dX9_open_47 (by decide) ?_
          exact h_iret hx hb hr hlk hV h23 (Nat.le_of_ble_eq_true rfl) (Nat.le_of_ble_eq_true rfl) dX9_open_49
        · rw [if_neg c24] at h23
          refine lv_iload hx hb dX9_open_37 (hi_at hl 0 rfl) ?_
          refine hr_aload_n hx hb dX9_open_39 rfl (hr_at hl 1 rfl) ?_
          obtain ⟨v25, g26, h27⟩ := hbind h23; clear h23
          refine h_gR hx hb hown hV g26 (flRX9_24 hts hK) dX9_open_40 ?_
          obtain ⟨v28, g29, h30⟩ := hbind h27; clear h27
          refine h_alen hx hb hK hV (by decide) g29 dX9_open_43 ?_
          refine lv_icmp_lt (tgt := 50) hx hb dX9_open_44 (by decide) (fun c31 => ?_) (fun c31 => ?_)
          · rw [if_pos c31] at h30
            refine h_new (ci := 4) (ty := tyX4) hx hb hts hK uwX4 tyX4_ok hown (hts _ wd150) (hts _ wd199) (hts _ wd84) rfl rfl hV (Nat.le_of_ble_eq_true rfl) (Nat.le_of_ble_eq_true rfl) dX9_open_50 (fun H hV => ?_)
            refine hr_dup hx hb dX9_open_53 ?_
            refine lv_iload hx hb dX9_open_54 (hi_at hl 0 rfl) ?_
            refine lv_iload_n hx hb dX9_open_56 rfl (hi_at hl 3 rfl) ?_
            refine lv_iload_n hx hb dX9_open_57 rfl (hi_at hl 4 rfl) ?_
            obtain ⟨r32, S33, g34, h35⟩ := hbn2 h30; clear h30
            refine h_callIN (b := S17.2) (n := 3) (As := [.int r16, .int x2, .int x3]) (rest := [va_rf (some S17.2)]) (st1 := [va_rf (some S17.2)]) (fr := 2) (lo := 32) (mc := 2) (ms := 6) C.1 hK hV wd202 (wo200 hK.2) wd201 wd84 rfl ⟨by decide, by decide, by decide⟩ ⟨(Nat.le_of_ble_eq_true rfl), (Nat.le_of_ble_eq_true rfl)⟩ rfl hl.1 (hW_ok [.inr (some S17.2)] (Nat.le_of_ble_eq_true rfl)) dX9_open_58 ⟨(Nat.le_of_ble_eq_true rfl), (Nat.le_of_ble_eq_true rfl)⟩ rfl rfl (mX4_init l D fu (nO S17 4) S17.2 r16 x2 x3 _ g34) (fun H locs hV => ?_)
            refine h_astore (tl' := [(5, .inr (some S17.2)), (4, .inl r16), (0, .inr (some a0)), (1, .inl x1), (2, .inl x2), (3, .inl x3)]) hx hb dX9_open_61 hl (by decide) rfl (fun ls hl => ?_)
            refine hr_aload_n hx hb dX9_open_63 rfl (hr_at hl 2 rfl) ?_
            refine hr_aload hx hb dX9_open_64 (hr_at hl 0 rfl) ?_
            refine lv_iload_n hx hb dX9_open_66 rfl (hi_at hl 3 rfl) ?_
            obtain ⟨b38, g39, h40⟩ := hbind h35; clear h35
            obtain ⟨_, _, e41, q41⟩ := rcv_inv g39
            obtain ⟨r36, S37, g42, h43⟩ := hbn2 h40; clear h40
            refine h_callV (n := 2) (As := [va_rf (some S17.2), .int x1]) (rest := []) (st1 := [.int r36]) (fr := 3) (lo := 65) (mc := 0) (ms := 0) C.1 hK hV q41 rfl rfl wd254 wd251 wd253 wd1 wd78 ⟨by decide, by decide, by decide⟩ ⟨(Nat.le_of_ble_eq_true rfl), (Nat.le_of_ble_eq_true rfl)⟩ rfl hl.1 (hW_ok [] (Nat.le_of_ble_eq_true rfl)) dX9_open_67 ⟨(Nat.le_of_ble_eq_true rfl), (Nat.le_of_ble_eq_true rfl)⟩ rfl (by rw [e41]; rfl) (mX9_takeCellsAndBuffer l D fu S33 b38 (some S17.2) x1 _ g42) (fun H locs hV => ?_)
            refine lv_if_ne (tgt := 76) hx hb dX9_open_70 (by decide) (fun c44 => ?_) (fun c44 => ?_)
            · rw [if_neg c44] at h43
              refine hr_aload_n hx hb dX9_open_76 rfl (hr_at hl 2 rfl) ?_
              obtain ⟨v45, g46, h47⟩ := hbind h43; clear h43
              refine h_gR hx hb hown hV g46 (flRX9_18 hts hK) dX9_open_77 ?_
              refine hr_aload hx hb dX9_open_80 (hr_at hl 0 rfl) ?_
              obtain ⟨v48, g49, h50⟩ := hbind h47; clear h47
              refine h_gR hx hb hown hV g49 (flRX9_61 hts hK) dX9_open_82 ?_
              obtain ⟨v51, g52, h53⟩ := hbind h50; clear h50
              refine h_gI hx hb hown hV g52 (flRX9_65 hts hK) dX9_open_85 ?_
              refine lv_iload_n hx hb dX9_open_88 rfl (hi_at hl 3 rfl) ?_
              obtain ⟨b56, g57, h58⟩ := hbind h53; clear h53
              obtain ⟨_, _, e59, q59⟩ := rcv_inv g57
              obtain ⟨r54, S55, g60, h61⟩ := hbn2 h58; clear h58
              refine h_callVN (n := 2) (As := [.int v51, .int x1]) (rest := []) (st1 := []) (fr := 1) (lo := 22) (mc := 0) (ms := 0) C.1 hK hV q59 rfl rfl wd281 (wo278 hK.2) wd280 wd7 wd79 ⟨by decide, by decide, by decide⟩ ⟨(Nat.le_of_ble_eq_true rfl), (Nat.le_of_ble_eq_true rfl)⟩ rfl hl.1 (hW_ok [] (Nat.le_of_ble_eq_true rfl)) dX9_open_89 ⟨(Nat.le_of_ble_eq_true rfl), (Nat.le_of_ble_eq_true rfl)⟩ rfl (by rw [e59]; rfl) (mX0_clear l D fu S37 b56 v51 x1 _ g60) (fun H locs hV => ?_)
              refine hr_aload_n hx hb dX9_open_92 rfl (hr_at hl 2 rfl) ?_
              obtain ⟨v62, g63, h64⟩ := hbind h61; clear h61
              refine h_gR hx hb hown hV g63 (flRX9_24 hts hK) dX9_open_93 ?_
              refine lv_iload hx hb dX9_open_96 (hi_at hl 1 rfl) ?_
              refine hr_aload hx hb dX9_open_98 (hr_at hl 0 rfl) ?_
              obtain ⟨S65, g66, h67⟩ := hbind h64; clear h64
              refine h_aast hx hb hK hV g66 dX9_open_100 (fun H locs hV => ?_)
              refine lv_iload hx hb dX9_open_101 (hi_at hl 1 rfl) ?_
              exact h_iret hx hb hr hlk hV h67 (Nat.le_of_ble_eq_true rfl) (Nat.le_of_ble_eq_true rfl) dX9_open_103
            · rw [if_pos c44] at h43
              refine lv_bipush (v := -6) hx hb dX9_open_73 (by decide) ?_
              exact h_iret hx hb hr hlk hV h43 (Nat.le_of_ble_eq_true rfl) (Nat.le_of_ble_eq_true rfl) dX9_open_75
          · rw [if_neg c31] at h30
            refine lv_bipush (v := -5) hx hb dX9_open_47 (by decide) ?_
            exact h_iret hx hb hr hlk hV h30 (Nat.le_of_ble_eq_true rfl) (Nat.le_of_ble_eq_true rfl) dX9_open_49
      · rw [if_pos c15] at h14
        refine lv_bipush (v := -4) hx hb dX9_open_23 (by decide) ?_
        exact h_iret hx hb hr hlk hV h14 (Nat.le_of_ble_eq_true rfl) (Nat.le_of_ble_eq_true rfl) dX9_open_25
