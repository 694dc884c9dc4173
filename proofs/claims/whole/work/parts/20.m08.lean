def fX10_submit (fu : Nat) (S : hS) (a0 : Nat) (x1 : Int32) : Option (Int32 × hS) := (rcv S 9 (some a0)).bind fun b3 => bn2 (fX10_isJob fu S b3 x1) fun r1 S2 => if r1 = 0 then (some ((-1 : Int32), S2)) else ((gR S2 9 4 (some a0)).bind fun v10 =>
(aI S2 10 v10 x1).bind fun v13 =>
if v13 = (1 : Int32) then ((gR S2 9 4 (some a0)).bind fun v17 =>
(sV S2 10 v17 x1 (.int (2 : Int32))).bind fun S20 =>
(rcv S20 9 (some a0)).bind fun b25 =>
bn2 (fX10_goesToEnd fu S20 b25 x1) fun _ S24 =>
(gR S24 9 12 (some a0)).bind fun v31 =>
(gI S24 9 15 (some a0)).bind fun v34 =>
(sV S24 10 v31 x1 (.int v34)).bind fun S37 =>
(rcv S37 9 (some a0)).bind fun b42 =>
bn2 (fX10_takesUp fu S37 b42 x1) fun _ S41 =>
(gR S41 9 14 (some a0)).bind fun v48 =>
(rcv S41 9 (some a0)).bind fun b53 =>
bn2 (fX10_begins fu S41 b53) fun r51 S52 =>
(zz r51).bind fun _ =>
(sV S52 11 v48 x1 (.int r51)).bind fun S59 =>
(rcv S59 9 (some a0)).bind fun b67 =>
bn2 (fX10_putsBy fu S59 b67) fun _ S66 =>
some ((0 : Int32), S66)) else (some ((-3 : Int32), S2)))
set_option maxHeartbeats 4000000 in
set_option maxRecDepth 100000 in
theorem mX10_submit (l : Launch) (D : hD) (fu : Nat) (S : hS) (a0 : Nat) (x1 : Int32) (z : Int32 × hS) (h : fX10_submit fu S a0 x1 = some z) : hM l D yX10_submit cX10_submit 2 (some .int) 5 96 0 0 [va_rf (some a0), .int x1] S (some (.int z.1)) z.2 := by
  refine h_body [.inr (some a0), .inl x1] RX10 (by decide) rfl (Nat.le_of_ble_eq_true rfl) ?_
  intro p e s m args below meth c C hin ls hV hl
  obtain ⟨-, hx, hb, hml, hown, hr, hlk, hK, hts⟩ := id C
  unfold fX10_submit at h
  refine hr_aload_n hx hb dX10_submit_0 rfl (hr_at hl 0 rfl) ?_
  refine lv_iload_n hx hb dX10_submit_1 rfl (hi_at hl 1 rfl) ?_
  obtain ⟨b3, g4, h5⟩ := hbind h; clear h
  obtain ⟨_, _, e6, q6⟩ := rcv_inv g4
  obtain ⟨r1, S2, g7, h8⟩ := hbn2 h5; clear h5
  refine h_callV (n := 1) (As := [.int x1]) (rest := []) (st1 := [.int r1]) (fr := 1) (lo := 21) (mc := 0) (ms := 0) C.1 hK hV q6 rfl rfl wd839 wd836 wd838 wd50 wd83 ⟨by decide, by decide, by decide⟩ ⟨(Nat.le_of_ble_eq_true rfl), (Nat.le_of_ble_eq_true rfl)⟩ rfl hl.1 (hW_ok [] (Nat.le_of_ble_eq_true rfl)) dX10_submit_2 ⟨(Nat.le_of_ble_eq_true rfl), (Nat.le_of_ble_eq_true rfl)⟩ rfl (by rw [e6]; rfl) (mX10_isJob l D fu S b3 x1 _ g7) (fun H locs hV => ?_)
  refine lv_if_ne (tgt := 10) hx hb dX10_submit_5 (by decide) (fun c9 => ?_) (fun c9 => ?_)
  · rw [if_neg c9] at h8
    refine hr_aload_n hx hb dX10_submit_10 rfl (hr_at hl 0 rfl) ?_
    obtain ⟨v10, g11, h12⟩ := hbind h8; clear h8
    refine h_gR hx hb hown hV g11 (flRX10_9 hts hK) dX10_submit_11 ?_
    refine lv_iload_n hx hb dX10_submit_14 rfl (hi_at hl 1 rfl) ?_
    obtain ⟨v13, g14, h15⟩ := hbind h12; clear h12
    refine h_iald hx hb hK hV g14 dX10_submit_15 ?_
    refine lv_iconst (v := 1) hx hb dX10_submit_16 (by decide) ?_
    refine lv_icmp_eq (tgt := 23) hx hb dX10_submit_17 (by decide) (fun c16 => ?_) (fun c16 => ?_)
    · rw [if_pos c16] at h15
      refine hr_aload_n hx hb dX10_submit_23 rfl (hr_at hl 0 rfl) ?_
      obtain ⟨v17, g18, h19⟩ := hbind h15; clear h15
      refine h_gR hx hb hown hV g18 (flRX10_9 hts hK) dX10_submit_24 ?_
      refine lv_iload_n hx hb dX10_submit_27 rfl (hi_at hl 1 rfl) ?_
      refine lv_iconst (v := 2) hx hb dX10_submit_28 (by decide) ?_
      obtain ⟨S20, g21, h22⟩ := hbind h19; clear h19
      refine h_iast hx hb hK hV g21 dX10_submit_29 (fun H locs hV => ?_)
      refine hr_aload_n hx hb dX10_submit_30 rfl (hr_at hl 0 rfl) ?_
      refine lv_iload_n hx hb dX10_submit_31 rfl (hi_at hl 1 rfl) ?_
      obtain ⟨b25, g26, h27⟩ := hbind h22; clear h22
      obtain ⟨_, _, e28, q28⟩ := rcv_inv g26
      obtain ⟨r23, S24, g29, h30⟩ := hbn2 h27; clear h27
      refine h_callV (n := 1) (As := [.int x1]) (rest := []) (st1 := []) (fr := 0) (lo := 0) (mc := 0) (ms := 0) C.1 hK hV q28 rfl rfl wd851 wd848 wd850 wd51 wd83 ⟨by decide, by decide, by decide⟩ ⟨(Nat.le_of_ble_eq_true rfl), (Nat.le_of_ble_eq_true rfl)⟩ rfl hl.1 (hW_ok [] (Nat.le_of_ble_eq_true rfl)) dX10_submit_32 ⟨(Nat.le_of_ble_eq_true rfl), (Nat.le_of_ble_eq_true rfl)⟩ rfl (by rw [e28]; rfl) (mX10_goesToEnd l D fu S20 b25 x1 _ g29) (fun H locs hV => ?_)
      refine hr_aload_n hx hb dX10_submit_35 rfl (hr_at hl 0 rfl) ?_
      obtain ⟨v31, g32, h33⟩ := hbind h30; clear h30
      refine h_gR hx hb hown hV g32 (flRX10_34 hts hK) dX10_submit_36 ?_
      refine lv_iload_n hx hb dX10_submit_39 rfl (hi_at hl 1 rfl) ?_
      refine hr_aload_n hx hb dX10_submit_40 rfl (hr_at hl 0 rfl) ?_
      obtain ⟨v34, g35, h36⟩ := hbind h33; clear h33
      refine h_gI hx hb hown hV g35 (flRX10_106 hts hK) dX10_submit_41 ?_
      obtain ⟨S37, g38, h39⟩ := hbind h36; clear h36
      refine h_iast hx hb hK hV g38 dX10_submit_44 (fun H locs hV => ?_)
      refine hr_aload_n hx hb dX10_submit_45 rfl (hr_at hl 0 rfl) ?_
      refine lv_iload_n hx hb dX10_submit_46 rfl (hi_at hl 1 rfl) ?_
      obtain ⟨b42, g43, h44⟩ := hbind h39; clear h39
      obtain ⟨_, _, e45, q45⟩ := rcv_inv g43
      obtain ⟨r40, S41, g46, h47⟩ := hbn2 h44; clear h44
      refine h_callV (n := 1) (As := [.int x1]) (rest := []) (st1 := []) (fr := 0) (lo := 0) (mc := 0) (ms := 0) C.1 hK hV q45 rfl rfl wd855 wd852 wd854 wd52 wd83 ⟨by decide, by decide, by decide⟩ ⟨(Nat.le_of_ble_eq_true rfl), (Nat.le_of_ble_eq_true rfl)⟩ rfl hl.1 (hW_ok [] (Nat.le_of_ble_eq_true rfl)) dX10_submit_47 ⟨(Nat.le_of_ble_eq_true rfl), (Nat.le_of_ble_eq_true rfl)⟩ rfl (by rw [e45]; rfl) (mX10_takesUp l D fu S37 b42 x1 _ g46) (fun H locs hV => ?_)
      refine hr_aload_n hx hb dX10_submit_50 rfl (hr_at hl 0 rfl) ?_
      obtain ⟨v48, g49, h50⟩ := hbind h47; clear h47
      refine h_gR hx hb hown hV g49 (flRX10_40 hts hK) dX10_submit_51 ?_
      refine lv_iload_n hx hb dX10_submit_54 rfl (hi_at hl 1 rfl) ?_
      refine hr_aload_n hx hb dX10_submit_55 rfl (hr_at hl 0 rfl) ?_
      obtain ⟨b53, g54, h55⟩ := hbind h50; clear h50
      obtain ⟨_, _, e56, q56⟩ := rcv_inv g54
      obtain ⟨r51, S52, g57, h58⟩ := hbn2 h55; clear h55
      refine h_callV (n := 0) (As := []) (rest := [.int x1, va_rf v48]) (st1 := [.int r51, .int x1, va_rf v48]) (fr := 4) (lo := 76) (mc := 0) (ms := 0) C.1 hK hV q56 rfl rfl wd859 wd856 wd858 wd53 wd83 ⟨by decide, by decide, by decide⟩ ⟨(Nat.le_of_ble_eq_true rfl), (Nat.le_of_ble_eq_true rfl)⟩ rfl hl.1 (hW_ok [.inl x1, .inr v48] (Nat.le_of_ble_eq_true rfl)) dX10_submit_56 ⟨(Nat.le_of_ble_eq_true rfl), (Nat.le_of_ble_eq_true rfl)⟩ rfl (by rw [e56]; rfl) (mX10_begins l D fu S41 b53 _ g57) (fun H locs hV => ?_)
      obtain ⟨v60, g61, h62⟩ := hbind h58; clear h58
      obtain ⟨S59, g63, h64⟩ := hbind h62; clear h62
      refine h_zast hx hb hK hV (zz_inv g61).2 g63 dX10_submit_59 (fun H locs hV => ?_)
      refine hr_aload_n hx hb dX10_submit_60 rfl (hr_at hl 0 rfl) ?_
      obtain ⟨b67, g68, h69⟩ := hbind h64; clear h64
      obtain ⟨_, _, e70, q70⟩ := rcv_inv g68
      obtain ⟨r65, S66, g71, h72⟩ := hbn2 h69; clear h69
      refine h_callV (n := 0) (As := []) (rest := []) (st1 := []) (fr := 0) (lo := 0) (mc := 0) (ms := 0) C.1 hK hV q70 rfl rfl wd915 wd912 wd914 wd67 wd83 ⟨by decide, by decide, by decide⟩ ⟨(Nat.le_of_ble_eq_true rfl), (Nat.le_of_ble_eq_true rfl)⟩ rfl hl.1 (hW_ok [] (Nat.le_of_ble_eq_true rfl)) dX10_submit_61 ⟨(Nat.le_of_ble_eq_true rfl), (Nat.le_of_ble_eq_true rfl)⟩ rfl (by rw [e70]; rfl) (mX10_putsBy l D fu S59 b67 _ g71) (fun H locs hV => ?_)
      refine lv_iconst (v := 0) hx hb dX10_submit_64 (by decide) ?_
      exact h_iret hx hb hr hlk hV h72 (Nat.le_of_ble_eq_true rfl) (Nat.le_of_ble_eq_true rfl) dX10_submit_65
    · rw [if_neg c16] at h15
      refine lv_bipush (v := -3) hx hb dX10_submit_20 (by decide) ?_
      exact h_iret hx hb hr hlk hV h15 (Nat.le_of_ble_eq_true rfl) (Nat.le_of_ble_eq_true rfl) dX10_submit_22
  · rw [if_pos c9] at h8
    refine lv_iconst (v := -1) hx hb dX10_submit_8 (by decide) ?_
    exact h_iret hx hb hr hlk hV h8 (Nat.le_of_ble_eq_true rfl) (Nat.le_of_ble_eq_true rfl) dX10_submit_9
def fX10_cancel (fu : Nat) (S : hS) (a0 : Nat) (x1 : Int32) : Option (Int32 × hS) := (rcv S 9 (some a0)).bind fun b3 => bn2 (fX10_isJob fu S b3 x1) fun r1 S2 => if r1 = 0 then (some ((-1 : Int32), S2)) else ((gR S2 9 4 (some a0)).bind fun v10 =>
(aI S2 10 v10 x1).bind fun v13 =>
if v13 = (2 : Int32) then ((gR S2 9 4 (some a0)).bind fun v17 =>
(sV S2 10 v17 x1 (.int (4 : Int32))).bind fun S20 =>
some ((0 : Int32), S20)) else (some ((-3 : Int32), S2)))
set_option maxHeartbeats 4000000 in
set_option maxRecDepth 100000 in
theorem mX10_cancel (l : Launch) (D : hD) (fu : Nat) (S : hS) (a0 : Nat) (x1 : Int32) (z : Int32 × hS) (h : fX10_cancel fu S a0 x1 = some z) : hM l D yX10_cancel cX10_cancel 2 (some .int) 2 42 0 0 [va_rf (some a0), .int x1] S (some (.int z.1)) z.2 := by
  refine h_body [.inr (some a0), .inl x1] RX10 (by decide) rfl (Nat.le_of_ble_eq_true rfl) ?_
  intro p e s m args below meth c C hin ls hV hl
  obtain ⟨-, hx, hb, hml, hown, hr, hlk, hK, hts⟩ := id C
  unfold fX10_cancel at h
  refine hr_aload_n hx hb dX10_cancel_0 rfl (hr_at hl 0 rfl) ?_
  refine lv_iload_n hx hb dX10_cancel_1 rfl (hi_at hl 1 rfl) ?_
  obtain ⟨b3, g4, h5⟩ := hbind h; clear h
  obtain ⟨_, _, e6, q6⟩ := rcv_inv g4
  obtain ⟨r1, S2, g7, h8⟩ := hbn2 h5; clear h5
  refine h_callV (n := 1) (As := [.int x1]) (rest := []) (st1 := [.int r1]) (fr := 1) (lo := 21) (mc := 0) (ms := 0) C.1 hK hV q6 rfl rfl wd839 wd836 wd838 wd50 wd83 ⟨by decide, by decide, by decide⟩ ⟨(Nat.le_of_ble_eq_true rfl), (Nat.le_of_ble_eq_true rfl)⟩ rfl hl.1 (hW_ok [] (Nat.le_of_ble_eq_true rfl)) dX10_cancel_2 ⟨(Nat.le_of_ble_eq_true rfl), (Nat.le_of_ble_eq_true rfl)⟩ rfl (by rw [e6]; rfl) (mX10_isJob l D fu S b3 x1 _ g7) (fun H locs hV => ?_)
  refine lv_if_ne (tgt := 10) hx hb dX10_cancel_5 (by decide) (fun c9 => ?_) (fun c9 => ?_)
  · rw [if_neg c9] at h8
    refine hr_aload_n hx hb dX10_cancel_10 rfl (hr_at hl 0 rfl) ?_
    obtain ⟨v10, g11, h12⟩ := hbind h8; clear h8
    refine h_gR hx hb hown hV g11 (flRX10_9 hts hK) dX10_cancel_11 ?_
    refine lv_iload_n hx hb dX10_cancel_14 rfl (hi_at hl 1 rfl) ?_
    obtain ⟨v13, g14, h15⟩ := hbind h12; clear h12
    refine h_iald hx hb hK hV g14 dX10_cancel_15 ?_
    refine lv_iconst (v := 2) hx hb dX10_cancel_16 (by decide) ?_
    refine lv_icmp_eq (tgt := 23) hx hb dX10_cancel_17 (by decide) (fun c16 => ?_) (fun c16 => ?_)
    · rw [if_pos c16] at h15
      refine hr_aload_n hx hb dX10_cancel_23 rfl (hr_at hl 0 rfl) ?_
      obtain ⟨v17, g18, h19⟩ := hbind h15; clear h15
      refine h_gR hx hb hown hV g18 (flRX10_9 hts hK) dX10_cancel_24 ?_
      refine lv_iload_n hx hb dX10_cancel_27 rfl (hi_at hl 1 rfl) ?_
      refine lv_iconst (v := 4) hx hb dX10_cancel_28 (by decide) ?_
      obtain ⟨S20, g21, h22⟩ := hbind h19; clear h19
      refine h_iast hx hb hK hV g21 dX10_cancel_29 (fun H locs hV => ?_)
      refine lv_iconst (v := 0) hx hb dX10_cancel_30 (by decide) ?_
      exact h_iret hx hb hr hlk hV h22 (Nat.le_of_ble_eq_true rfl) (Nat.le_of_ble_eq_true rfl) dX10_cancel_31
    · rw [if_neg c16] at h15
      refine lv_bipush (v := -3) hx hb dX10_cancel_20 (by decide) ?_
      exact h_iret hx hb hr hlk hV h15 (Nat.le_of_ble_eq_true rfl) (Nat.le_of_ble_eq_true rfl) dX10_cancel_22
  · rw [if_pos c9] at h8
    refine lv_iconst (v := -1) hx hb dX10_cancel_8 (by decide) ?_
    exact h_iret hx hb hr hlk hV h8 (Nat.le_of_ble_eq_true rfl) (Nat.le_of_ble_eq_true rfl) dX10_cancel_9
def fX10_raise (fu : Nat) (S : hS) (a0 : Nat) (x1 : Int32) (x2 : Int32) : Option (Int32 × hS) := (rcv S 9 (some a0)).bind fun b3 => bn2 (fX10_isJob fu S b3 x1) fun r1 S2 => if r1 = 0 then (some ((-1 : Int32), S2)) else (if x2 < 0 then (some ((-4 : Int32), S2)) else (if x2 ≤ (3 : Int32) then ((gR S2 9 4 (some a0)).bind fun v12 =>
(aI S2 10 v12 x1).bind fun v15 =>
if v15 = (3 : Int32) then (some ((-3 : Int32), S2)) else ((gR S2 9 4 (some a0)).bind fun v19 =>
(aI S2 10 v19 x1).bind fun v22 =>
if v22 = (4 : Int32) then (some ((-3 : Int32), S2)) else ((gR S2 9 7 (some a0)).bind fun v26 =>
(sV S2 10 v26 x1 (.int x2)).bind fun S29 =>
(gR S29 9 4 (some a0)).bind fun v32 =>
(aI S29 10 v32 x1).bind fun v35 =>
if v35 = (2 : Int32) then ((rcv S29 9 (some a0)).bind fun b41 =>
bn2 (fX10_goesToEnd fu S29 b41 x1) fun _ S40 =>
some ((0 : Int32), S40)) else (some ((0 : Int32), S29))))) else (some ((-4 : Int32), S2))))
set_option maxHeartbeats 4000000 in
set_option maxRecDepth 100000 in
theorem mX10_raise (l : Launch) (D : hD) (fu : Nat) (S : hS) (a0 : Nat) (x1 : Int32) (x2 : Int32) (z : Int32 × hS) (h : fX10_raise fu S a0 x1 x2 = some z) : hM l D yX10_raise cX10_raise 3 (some .int) 2 42 0 0 [va_rf (some a0), .int x1, .int x2] S (some (.int z.1)) z.2 := by
  refine h_body [.inr (some a0), .inl x1, .inl x2] RX10 (by decide) rfl (Nat.le_of_ble_eq_true rfl) ?_
  intro p e s m args below meth c C hin ls hV hl
  obtain ⟨-, hx, hb, hml, hown, hr, hlk, hK, hts⟩ := id C
  unfold fX10_raise at h
  refine hr_aload_n hx hb dX10_raise_0 rfl (hr_at hl 0 rfl) ?_
  refine lv_iload_n hx hb dX10_raise_1 rfl (hi_at hl 1 rfl) ?_
  obtain ⟨b3, g4, h5⟩ := hbind h; clear h
  obtain ⟨_, _, e6, q6⟩ := rcv_inv g4
  obtain ⟨r1, S2, g7, h8⟩ := hbn2 h5; clear h5
  refine h_callV (n := 1) (As := [.int x1]) (rest := []) (st1 := [.int r1]) (fr := 1) (lo := 21) (mc := 0) (ms := 0) C.1 hK hV q6 rfl rfl wd839 wd836 wd838 wd50 wd83 ⟨by decide, by decide, by decide⟩ ⟨(Nat.le_of_ble_eq_true rfl), (Nat.le_of_ble_eq_true rfl)⟩ rfl hl.1 (hW_ok [] (Nat.le_of_ble_eq_true rfl)) dX10_raise_2 ⟨(Nat.le_of_ble_eq_true rfl), (Nat.le_of_ble_eq_true rfl)⟩ rfl (by rw [e6]; rfl) (mX10_isJob l D fu S b3 x1 _ g7) (fun H locs hV => ?_)
  refine lv_if_ne (tgt := 10) hx hb dX10_raise_5 (by decide) (fun c9 => ?_) (fun c9 => ?_)
  · rw [if_neg c9] at h8
    refine lv_iload_n hx hb dX10_raise_10 rfl (hi_at hl 2 rfl) ?_
    refine lv_if_lt (tgt := 19) hx hb dX10_raise_11 (by decide) (fun c10 => ?_) (fun c10 => ?_)
    · rw [if_pos c10] at h8
      refine lv_bipush (v := -4) hx hb dX10_raise_19 (by decide) ?_
      exact h_iret hx hb hr hlk hV h8 (Nat.le_of_ble_eq_true rfl) (Nat.le_of_ble_eq_true rfl) dX10_raise_21
    · rw [if_neg c10] at h8
      refine lv_iload_n hx hb dX10_raise_14 rfl (hi_at hl 2 rfl) ?_
      refine lv_iconst (v := 3) hx hb dX10_raise_15 (by decide) ?_
      refine lv_icmp_le (tgt := 22) hx hb dX10_raise_16 (by decide) (fun c11 => ?_) (fun c11 => ?_)
      · rw [if_pos c11] at h8
        refine hr_aload_n hx hb dX10_raise_22 rfl (hr_at hl 0 rfl) ?_
        obtain ⟨v12, g13, h14⟩ := hbind h8; clear h8
        refine h_gR hx hb hown hV g13 (flRX10_9 hts hK) dX10_raise_23 ?_
        refine lv_iload_n hx hb dX10_raise_26 rfl (hi_at hl 1 rfl) ?_
        obtain ⟨v15, g16, h17⟩ := hbind h14; clear h14
        refine h_iald hx hb hK hV g16 dX10_raise_27 ?_
        refine lv_iconst (v := 3) hx hb dX10_raise_28 (by decide) ?_
        refine lv_icmp_eq (tgt := 42) hx hb dX10_raise_29 (by decide) (fun c18 => ?_) (fun c18 => ?_)
        · rw [if_pos c18] at h17
          refine lv_bipush (v := -3) hx hb dX10_raise_42 (by decide) ?_
          exact h_iret hx hb hr hlk hV h17 (Nat.le_of_ble_eq_true rfl) (Nat.le_of_ble_eq_true rfl) dX10_raise_44
        · rw [if_neg c18] at h17
          refine hr_aload_n hx hb dX10_raise_32 rfl (hr_at hl 0 rfl) ?_
          obtain ⟨v19, g20, h21⟩ := hbind h17; clear h17
          refine h_gR hx hb hown hV g20 (flRX10_9 hts hK) dX10_raise_33 ?_
          refine lv_iload_n hx hb dX10_raise_36 rfl (hi_at hl 1 rfl) ?_
          obtain ⟨v22, g23, h24⟩ := hbind h21; clear h21
          refine h_iald hx hb hK hV g23 dX10_raise_37 ?_
          refine lv_iconst (v := 4) hx hb dX10_raise_38 (by decide) ?_
          refine lv_icmp_ne (tgt := 45) hx hb dX10_raise_39 (by decide) (fun c25 => ?_) (fun c25 => ?_)
          · rw [if_neg c25] at h24
            refine hr_aload_n hx hb dX10_raise_45 rfl (hr_at hl 0 rfl) ?_
            obtain ⟨v26, g27, h28⟩ := hbind h24; clear h24
            refine h_gR hx hb hown hV g27 (flRX10_19 hts hK) dX10_raise_46 ?_
            refine lv_iload_n hx hb dX10_raise_49 rfl (hi_at hl 1 rfl) ?_
            refine lv_iload_n hx hb dX10_raise_50 rfl (hi_at hl 2 rfl) ?_
            obtain ⟨S29, g30, h31⟩ := hbind h28; clear h28
            refine h_iast hx hb hK hV g30 dX10_raise_51 (fun H locs hV => ?_)
            refine hr_aload_n hx hb dX10_raise_52 rfl (hr_at hl 0 rfl) ?_
            obtain ⟨v32, g33, h34⟩ := hbind h31; clear h31
            refine h_gR hx hb hown hV g33 (flRX10_9 hts hK) dX10_raise_53 ?_
            refine lv_iload_n hx hb dX10_raise_56 rfl (hi_at hl 1 rfl) ?_
            obtain ⟨v35, g36, h37⟩ := hbind h34; clear h34
            refine h_iald hx hb hK hV g36 dX10_raise_57 ?_
            refine lv_iconst (v := 2) hx hb dX10_raise_58 (by decide) ?_
            refine lv_icmp_ne (tgt := 67) hx hb dX10_raise_59 (by decide) (fun c38 => ?_) (fun c38 => ?_)
            · rw [if_neg c38] at h37
              refine lv_iconst (v := 0) hx hb dX10_raise_67 (by decide) ?_
              exact h_iret hx hb hr hlk hV h37 (Nat.le_of_ble_eq_true rfl) (Nat.le_of_ble_eq_true rfl) dX10_raise_68
            · rw [if_pos c38] at h37
              refine hr_aload_n hx hb dX10_raise_62 rfl (hr_at hl 0 rfl) ?_
              refine lv_iload_n hx hb dX10_raise_63 rfl (hi_at hl 1 rfl) ?_
              obtain ⟨b41, g42, h43⟩ := hbind h37; clear h37
              obtain ⟨_, _, e44, q44⟩ := rcv_inv g42
              obtain ⟨r39, S40, g45, h46⟩ := hbn2 h43; clear h43
              refine h_callV (n := 1) (As := [.int x1]) (rest := []) (st1 := []) (fr := 0) (lo := 0) (mc := 0) (ms := 0) C.1 hK hV q44 rfl rfl wd851 wd848 wd850 wd51 wd83 ⟨by decide, by decide, by decide⟩ ⟨(Nat.le_of_ble_eq_true rfl), (Nat.le_of_ble_eq_true rfl)⟩ rfl hl.1 (hW_ok [] (Nat.le_of_ble_eq_true rfl)) dX10_raise_64 ⟨(Nat.le_of_ble_eq_true rfl), (Nat.le_of_ble_eq_true rfl)⟩ rfl (by rw [e44]; rfl) (mX10_goesToEnd l D fu S29 b41 x1 _ g45) (fun H locs hV => ?_)
              refine lv_iconst (v := 0) hx hb dX10_raise_67 (by decide) ?_
              exact h_iret hx hb hr hlk hV h46 (Nat.le_of_ble_eq_true rfl) (Nat.le_of_ble_eq_true rfl) dX10_raise_68
          · rw [if_pos c25] at h24
            refine lv_bipush (v := -3) hx hb dX10_raise_42 (by decide) ?_
            exact h_iret hx hb hr hlk hV h24 (Nat.le_of_ble_eq_true rfl) (Nat.le_of_ble_eq_true rfl) dX10_raise_44
      · rw [if_neg c11] at h8
        refine lv_bipush (v := -4) hx hb dX10_raise_19 (by decide) ?_
        exact h_iret hx hb hr hlk hV h8 (Nat.le_of_ble_eq_true rfl) (Nat.le_of_ble_eq_true rfl) dX10_raise_21
  · rw [if_pos c9] at h8
    refine lv_iconst (v := -1) hx hb dX10_raise_8 (by decide) ?_
    exact h_iret hx hb hr hlk hV h8 (Nat.le_of_ble_eq_true rfl) (Nat.le_of_ble_eq_true rfl) dX10_raise_9
def fX10_close (fu : Nat) (S : hS) (a0 : Nat) (x1 : Int32) : Option (Int32 × hS) := (rcv S 9 (some a0)).bind fun b3 => bn2 (fX10_isJob fu S b3 x1) fun r1 S2 => if r1 = 0 then (some ((-1 : Int32), S2)) else ((gR S2 9 4 (some a0)).bind fun v10 =>
(aI S2 10 v10 x1).bind fun v13 =>
if v13 = (2 : Int32) then (some ((-3 : Int32), S2)) else ((gR S2 9 4 (some a0)).bind fun v17 =>
(sV S2 10 v17 x1 (.int (0 : Int32))).bind fun S20 =>
some ((0 : Int32), S20)))
set_option maxHeartbeats 4000000 in
set_option maxRecDepth 100000 in
theorem mX10_close (l : Launch) (D : hD) (fu : Nat) (S : hS) (a0 : Nat) (x1 : Int32) (z : Int32 × hS) (h : fX10_close fu S a0 x1 = some z) : hM l D yX10_close cX10_close 2 (some .int) 2 42 0 0 [va_rf (some a0), .int x1] S (some (.int z.1)) z.2 := by
  refine h_body [.inr (some a0), .inl x1] RX10 (by decide) rfl (Nat.le_of_ble_eq_true rfl) ?_
  intro p e s m args below meth c C hin ls hV hl
  obtain ⟨-, hx, hb, hml, hown, hr, hlk, hK, hts⟩ := id C
  unfold fX10_close at h
  refine hr_aload_n hx hb dX10_close_0 rfl (hr_at hl 0 rfl) ?_
  refine lv_iload_n hx hb dX10_close_1 rfl (hi_at hl 1 rfl) ?_
  obtain ⟨b3, g4, h5⟩ := hbind h; clear h
  obtain ⟨_, _, e6, q6⟩ := rcv_inv g4
  obtain ⟨r1, S2, g7, h8⟩ := hbn2 h5; clear h5
  refine h_callV (n := 1) (As := [.int x1]) (rest := []) (st1 := [.int r1]) (fr := 1) (lo := 21) (mc := 0) (ms := 0) C.1 hK hV q6 rfl rfl wd839 wd836 wd838 wd50 wd83 ⟨by decide, by decide, by decide⟩ ⟨(Nat.le_of_ble_eq_true rfl), (Nat.le_of_ble_eq_true rfl)⟩ rfl hl.1 (hW_ok [] (Nat.le_of_ble_eq_true rfl)) dX10_close_2 ⟨(Nat.le_of_ble_eq_true rfl), (Nat.le_of_ble_eq_true rfl)⟩ rfl (by rw [e6]; rfl) (mX10_isJob l D fu S b3 x1 _ g7) (fun H locs hV => ?_)
  refine lv_if_ne (tgt := 10) hx hb dX10_close_5 (by decide) (fun c9 => ?_) (fun c9 => ?_)
  · rw [if_neg c9] at h8
    refine hr_aload_n hx hb dX10_close_10 rfl (hr_at hl 0 rfl) ?_
    obtain ⟨v10, g11, h12⟩ := hbind h8; clear h8
    refine h_gR hx hb hown hV g11 (flRX10_9 hts hK) dX10_close_11 ?_
    refine lv_iload_n hx hb dX10_close_14 rfl (hi_at hl 1 rfl) ?_
    obtain ⟨v13, g14, h15⟩ := hbind h12; clear h12
    refine h_iald hx hb hK hV g14 dX10_close_15 ?_
    refine lv_iconst (v := 2) hx hb dX10_close_16 (by decide) ?_
    refine lv_icmp_ne (tgt := 23) hx hb dX10_close_17 (by decide) (fun c16 => ?_) (fun c16 => ?_)
    · rw [if_neg c16] at h15
      refine hr_aload_n hx hb dX10_close_23 rfl (hr_at hl 0 rfl) ?_
      obtain ⟨v17, g18, h19⟩ := hbind h15; clear h15
      refine h_gR hx hb hown hV g18 (flRX10_9 hts hK) dX10_close_24 ?_
      refine lv_iload_n hx hb dX10_close_27 rfl (hi_at hl 1 rfl) ?_
      refine lv_iconst (v := 0) hx hb dX10_close_28 (by decide) ?_
      obtain ⟨S20, g21, h22⟩ := hbind h19; clear h19
      refine h_iast hx hb hK hV g21 dX10_close_29 (fun H locs hV => ?_)
      refine lv_iconst (v := 0) hx hb dX10_close_30 (by decide) ?_
      exact h_iret hx hb hr hlk hV h22 (Nat.le_of_ble_eq_true rfl) (Nat.le_of_ble_eq_true rfl) dX10_close_31
    · rw [if_pos c16] at h15
      refine lv_bipush (v := -3) hx hb dX10_close_20 (by decide) ?_
      exact h_iret hx hb hr hlk hV h15 (Nat.le_of_ble_eq_true rfl) (Nat.le_of_ble_eq_true rfl) dX10_close_22
  · rw [if_pos c9] at h8
    refine lv_iconst (v := -1) hx hb dX10_close_8 (by decide) ?_
    exact h_iret hx hb hr hlk hV h8 (Nat.le_of_ble_eq_true rfl) (Nat.le_of_ble_eq_true rfl) dX10_close_9
def fX10_pack_107 (fu : Nat) (k10 : hS → Nat → Int32 → Int32 → Int32 → Option (Int32 × hS)) (S : hS) (a0 : Nat) (x1 : Int32) (x2 : Int32) (x4 : Int32) (x5 : Int32) : Option (Int32 × hS) := (rcv S 9 (some a0)).bind fun b3 => bn2 (fX10_nextFrom fu S b3 (x4 + x5)) fun r1 S2 => k10 S2 a0 (x1 + x5) x2 r1
set_option maxHeartbeats 4000000 in
set_option maxRecDepth 100000 in
theorem kX10_pack_107 {p : Program} {l : Launch} {e : Env} {s : State} {m : MethodId} {args : Array Value} {below : List Frame} {meth : Method} {c : Code} {D : hD} {S0 : hS} {z : Int32 × hS} (C : hCx p m c cX10_pack 7 s args RX10 meth (some .int) D) (fu : Nat) (k10 : hS → Nat → Int32 → Int32 → Int32 → Option (Int32 × hS)) (hk10 : ∀ (S : hS) (a0 : Nat) (x1 : Int32) (x2 : Int32) (x3 : Int32) (H : Heap) (locs : List Loc) (ls : Array Slot), k10 S a0 x1 x2 x3 = some z → h_V D (h_A S0) s S H locs → hl_has ls 7 [(0, .inr (some a0)), (1, .inl x1), (2, .inl x2), (3, .inl x3)] → W p l e { frames := 2, cells := 0, slots := 0, locals := 45 } s m args below meth c H locs 0 0 (MQ below (h_Q D (h_A S0) (some (.int z.1)) z.2) args s 0 0 (h_A S0)) (F0 m 10 ls [])) : ∀ (S : hS) (a0 : Nat) (x1 : Int32) (x2 : Int32) (x4 : Int32) (x5 : Int32) (H : Heap) (locs : List Loc) (ls : Array Slot), fX10_pack_107 fu k10 S a0 x1 x2 x4 x5 = some z → h_V D (h_A S0) s S H locs → hl_has ls 7 [(0, .inr (some a0)), (1, .inl x1), (2, .inl x2), (4, .inl x4), (5, .inl x5)] → W p l e { frames := 2, cells := 0, slots := 0, locals := 45 } s m args below meth c H locs 0 0 (MQ below (h_Q D (h_A S0) (some (.int z.1)) z.2) args s 0 0 (h_A S0)) (F0 m 107 ls []) := by
  obtain ⟨-, hx, hb, hml, hown, hr, hlk, hK, hts⟩ := id C
  intro S a0 x1 x2 x4 x5 _ _ _ h hV hl
  unfold fX10_pack_107 at h
  refine lv_iload_n hx hb dX10_pack_107 rfl (hi_at hl 1 rfl) ?_
  refine lv_iload hx hb dX10_pack_108 (hi_at hl 4 rfl) ?_
  refine lv_iadd hx hb dX10_pack_110 ?_
  refine h_istore_n (tl' := [(1, .inl (x1 + x5)), (0, .inr (some a0)), (2, .inl x2), (4, .inl x4), (5, .inl x5)]) hx hb dX10_pack_111 rfl hl (by decide) rfl (fun ls hl => ?_)
  refine hr_aload_n hx hb dX10_pack_112 rfl (hr_at hl 1 rfl) ?_
  refine lv_iload hx hb dX10_pack_113 (hi_at hl 3 rfl) ?_
  refine lv_iload hx hb dX10_pack_115 (hi_at hl 4 rfl) ?_
  refine lv_iadd hx hb dX10_pack_117 ?_
  obtain ⟨b3, g4, h5⟩ := hbind h; clear h
  obtain ⟨_, _, e6, q6⟩ := rcv_inv g4
  obtain ⟨r1, S2, g7, h8⟩ := hbn2 h5; clear h5
  refine h_callV (n := 1) (As := [.int (x4 + x5)]) (rest := []) (st1 := [.int r1]) (fr := 1) (lo := 21) (mc := 0) (ms := 0) C.1 hK hV q6 rfl rfl wd819 wd816 wd818 wd46 wd83 ⟨by decide, by decide, by decide⟩ ⟨(Nat.le_of_ble_eq_true rfl), (Nat.le_of_ble_eq_true rfl)⟩ rfl hl.1 (hW_ok [] (Nat.le_of_ble_eq_true rfl)) dX10_pack_118 ⟨(Nat.le_of_ble_eq_true rfl), (Nat.le_of_ble_eq_true rfl)⟩ rfl (by rw [e6]; rfl) (mX10_nextFrom l D fu S b3 (x4 + x5) _ g7) (fun H locs hV => ?_)
  refine h_istore_n (tl' := [(3, .inl r1), (1, .inl (x1 + x5)), (0, .inr (some a0)), (2, .inl x2), (4, .inl x4), (5, .inl x5)]) hx hb dX10_pack_121 rfl hl (by decide) rfl (fun ls hl => ?_)
  refine lv_goto (tgt := 10) hx hb dX10_pack_122 (by decide) ?_
  exact hk10 S2 a0 (x1 + x5) x2 r1 _ _ _ h8 hV (hl_sub hl [2, 1, 3, 0] rfl)
def fX10_pack_81 (fu : Nat) (k10 : hS → Nat → Int32 → Int32 → Int32 → Option (Int32 × hS)) (S : hS) (a0 : Nat) (x1 : Int32) (x2 : Int32) (x3 : Int32) (x4 : Int32) (x5 : Int32) : Option (Int32 × hS) := if x3 < (100 : Int32) then ((gR S 9 9 (some a0)).bind fun v2 =>
(sV S 10 v2 x3 (.int x1)).bind fun S5 =>
fX10_pack_107 fu k10 S5 a0 x1 x2 x4 x5) else ((gR S 9 10 (some a0)).bind fun v8 =>
(sV S 10 v8 (x3 - (100 : Int32)) (.int x1)).bind fun S11 =>
fX10_pack_107 fu k10 S11 a0 x1 x2 x4 x5)
set_option maxHeartbeats 4000000 in
set_option maxRecDepth 100000 in
theorem kX10_pack_81 {p : Program} {l : Launch} {e : Env} {s : State} {m : MethodId} {args : Array Value} {below : List Frame} {meth : Method} {c : Code} {D : hD} {S0 : hS} {z : Int32 × hS} (C : hCx p m c cX10_pack 7 s args RX10 meth (some .int) D) (fu : Nat) (k10 : hS → Nat → Int32 → Int32 → Int32 → Option (Int32 × hS)) (hk10 : ∀ (S : hS) (a0 : Nat) (x1 : Int32) (x2 : Int32) (x3 : Int32) (H : Heap) (locs : List Loc) (ls : Array Slot), k10 S a0 x1 x2 x3 = some z → h_V D (h_A S0) s S H locs → hl_has ls 7 [(0, .inr (some a0)), (1, .inl x1), (2, .inl x2), (3, .inl x3)] → W p l e { frames := 2, cells := 0, slots := 0, locals := 45 } s m args below meth c H locs 0 0 (MQ below (h_Q D (h_A S0) (some (.int z.1)) z.2) args s 0 0 (h_A S0)) (F0 m 10 ls [])) : ∀ (S : hS) (a0 : Nat) (x1 : Int32) (x2 : Int32) (x3 : Int32) (x4 : Int32) (x5 : Int32) (H : Heap) (locs : List Loc) (ls : Array Slot), fX10_pack_81 fu k10 S a0 x1 x2 x3 x4 x5 = some z → h_V D (h_A S0) s S H locs → hl_has ls 7 [(0, .inr (some a0)), (1, .inl x1), (2, .inl x2), (3, .inl x3), (4, .inl x4), (5, .inl x5)] → W p l e { frames := 2, cells := 0, slots := 0, locals := 45 } s m args below meth c H locs 0 0 (MQ below (h_Q D (h_A S0) (some (.int z.1)) z.2) args s 0 0 (h_A S0)) (F0 m 81 ls []) := by
  obtain ⟨-, hx, hb, hml, hown, hr, hlk, hK, hts⟩ := id C
  intro S a0 x1 x2 x3 x4 x5 _ _ _ h hV hl
  unfold fX10_pack_81 at h
  refine lv_iload_n hx hb dX10_pack_81 rfl (hi_at hl 3 rfl) ?_
  refine lv_bipush (v := 100) hx hb dX10_pack_82 (by decide) ?_
  refine lv_icmp_lt (tgt := 100) hx hb dX10_pack_84 (by decide) (fun c1 => ?_) (fun c1 => ?_)
  · rw [if_pos c1] at h
    refine hr_aload_n hx hb dX10_pack_100 rfl (hr_at hl 0 rfl) ?_
    obtain ⟨v2, g3, h4⟩ := hbind h; clear h
    refine h_gR hx hb hown hV g3 (flRX10_25 hts hK) dX10_pack_101 ?_
    refine lv_iload_n hx hb dX10_pack_104 rfl (hi_at hl 3 rfl) ?_
    refine lv_iload_n hx hb dX10_pack_105 rfl (hi_at hl 1 rfl) ?_
    obtain ⟨S5, g6, h7⟩ := hbind h4; clear h4
    refine h_iast hx hb hK hV g6 dX10_pack_106 (fun H locs hV => ?_)
    exact kX10_pack_107 C fu k10 hk10 S5 a0 x1 x2 x4 x5 _ _ _ h7 hV (hl_sub hl [0, 1, 2, 4, 5] rfl)
  · rw [if_neg c1] at h
    refine hr_aload_n hx hb dX10_pack_87 rfl (hr_at hl 0 rfl) ?_
    obtain ⟨v8, g9, h10⟩ := hbind h; clear h
    refine h_gR hx hb hown hV g9 (flRX10_28 hts hK) dX10_pack_88 ?_
    refine lv_iload_n hx hb dX10_pack_91 rfl (hi_at hl 3 rfl) ?_
    refine lv_bipush (v := 100) hx hb dX10_pack_92 (by decide) ?_
    refine lv_isub hx hb dX10_pack_94 ?_
    refine lv_iload_n hx hb dX10_pack_95 rfl (hi_at hl 1 rfl) ?_
    obtain ⟨S11, g12, h13⟩ := hbind h10; clear h10
    refine h_iast hx hb hK hV g12 dX10_pack_96 (fun H locs hV => ?_)
    refine lv_goto (tgt := 107) hx hb dX10_pack_97 (by decide) ?_
    exact kX10_pack_107 C fu k10 hk10 S11 a0 x1 x2 x4 x5 _ _ _ h13 hV (hl_sub hl [0, 1, 2, 4, 5] rfl)
def fX10_pack_70 (fu : Nat) (k10 : hS → Nat → Int32 → Int32 → Int32 → Option (Int32 × hS)) (S : hS) (a0 : Nat) (x1 : Int32) (x2 : Int32) (x3 : Int32) (x4 : Int32) (x5 : Int32) : Option (Int32 × hS) := if x4 = x1 then (fX10_pack_81 fu k10 S a0 x1 x2 x3 x4 x5) else (fX10_pack_81 fu k10 S a0 x1 (x2 + x5) x3 x4 x5)
set_option maxHeartbeats 4000000 in
set_option maxRecDepth 100000 in
theorem kX10_pack_70 {p : Program} {l : Launch} {e : Env} {s : State} {m : MethodId} {args : Array Value} {below : List Frame} {meth : Method} {c : Code} {D : hD} {S0 : hS} {z : Int32 × hS} (C : hCx p m c cX10_pack 7 s args RX10 meth (some .int) D) (fu : Nat) (k10 : hS → Nat → Int32 → Int32 → Int32 → Option (Int32 × hS)) (hk10 : ∀ (S : hS) (a0 : Nat) (x1 : Int32) (x2 : Int32) (x3 : Int32) (H : Heap) (locs : List Loc) (ls : Array Slot), k10 S a0 x1 x2 x3 = some z → h_V D (h_A S0) s S H locs → hl_has ls 7 [(0, .inr (some a0)), (1, .inl x1), (2, .inl x2), (3, .inl x3)] → W p l e { frames := 2, cells := 0, slots := 0, locals := 45 } s m args below meth c H locs 0 0 (MQ below (h_Q D (h_A S0) (some (.int z.1)) z.2) args s 0 0 (h_A S0)) (F0 m 10 ls [])) : ∀ (S : hS) (a0 : Nat) (x1 : Int32) (x2 : Int32) (x3 : Int32) (x4 : Int32) (x5 : Int32) (H : Heap) (locs : List Loc) (ls : Array Slot), fX10_pack_70 fu k10 S a0 x1 x2 x3 x4 x5 = some z → h_V D (h_A S0) s S H locs → hl_has ls 7 [(0, .inr (some a0)), (1, .inl x1), (2, .inl x2), (3, .inl x3), (4, .inl x4), (5, .inl x5)] → W p l e { frames := 2, cells := 0, slots := 0, locals := 45 } s m args below meth c H locs 0 0 (MQ below (h_Q D (h_A S0) (some (.int z.1)) z.2) args s 0 0 (h_A S0)) (F0 m 70 ls []) := by
  obtain ⟨-, hx, hb, hml, hown, hr, hlk, hK, hts⟩ := id C
  intro S a0 x1 x2 x3 x4 x5 _ _ _ h hV hl
  unfold fX10_pack_70 at h
  refine lv_iload hx hb dX10_pack_70 (hi_at hl 4 rfl) ?_
  refine lv_iload_n hx hb dX10_pack_72 rfl (hi_at hl 1 rfl) ?_
  refine lv_icmp_eq (tgt := 81) hx hb dX10_pack_73 (by decide) (fun c1 => ?_) (fun c1 => ?_)
  · rw [if_pos c1] at h
    exact kX10_pack_81 C fu k10 hk10 S a0 x1 x2 x3 x4 x5 _ _ _ h hV (hl_sub hl [0, 1, 2, 3, 4, 5] rfl)
  · rw [if_neg c1] at h
    refine lv_iload_n hx hb dX10_pack_76 rfl (hi_at hl 2 rfl) ?_
    refine lv_iload hx hb dX10_pack_77 (hi_at hl 5 rfl) ?_
    refine lv_iadd hx hb dX10_pack_79 ?_
    refine h_istore_n (tl' := [(2, .inl (x2 + x5)), (0, .inr (some a0)), (1, .inl x1), (3, .inl x3), (4, .inl x4), (5, .inl x5)]) hx hb dX10_pack_80 rfl hl (by decide) rfl (fun ls hl => ?_)
    exact kX10_pack_81 C fu k10 hk10 S a0 x1 (x2 + x5) x3 x4 x5 _ _ _ h hV (hl_sub hl [1, 2, 0, 3, 4, 5] rfl)
def fX10_pack_32 (fu : Nat) (k10 : hS → Nat → Int32 → Int32 → Int32 → Option (Int32 × hS)) : Nat → hS → Nat → Int32 → Int32 → Int32 → Int32 → Int32 → Int32 → Option (Int32 × hS)
  | 0, _, _, _, _, _, _, _, _ => none
  | n + 1, S, a0, x1, x2, x3, x4, x5, x6 => if x5 ≤ x6 then (fX10_pack_70 fu k10 S a0 x1 x2 x3 x4 x5) else (if x4 = x1 then (fX10_pack_70 fu k10 S a0 x1 x2 x3 x4 x5) else ((gR S 9 3 (some a0)).bind fun v3 =>
(gR S 9 3 (some a0)).bind fun v6 =>
(aI S 10 v6 (x4 + x6)).bind fun v9 =>
(sV S 10 v3 (x1 + x6) (.int v9)).bind fun S12 =>
fX10_pack_32 fu k10 n S12 a0 x1 x2 x3 x4 x5 (x6 + (1 : Int32))))
set_option maxHeartbeats 4000000 in
set_option maxRecDepth 100000 in
theorem kX10_pack_32 {p : Program} {l : Launch} {e : Env} {s : State} {m : MethodId} {args : Array Value} {below : List Frame} {meth : Method} {c : Code} {D : hD} {S0 : hS} {z : Int32 × hS} (C : hCx p m c cX10_pack 7 s args RX10 meth (some .int) D) (fu : Nat) (k10 : hS → Nat → Int32 → Int32 → Int32 → Option (Int32 × hS)) (hk10 : ∀ (S : hS) (a0 : Nat) (x1 : Int32) (x2 : Int32) (x3 : Int32) (H : Heap) (locs : List Loc) (ls : Array Slot), k10 S a0 x1 x2 x3 = some z → h_V D (h_A S0) s S H locs → hl_has ls 7 [(0, .inr (some a0)), (1, .inl x1), (2, .inl x2), (3, .inl x3)] → W p l e { frames := 2, cells := 0, slots := 0, locals := 45 } s m args below meth c H locs 0 0 (MQ below (h_Q D (h_A S0) (some (.int z.1)) z.2) args s 0 0 (h_A S0)) (F0 m 10 ls [])) : ∀ (n : Nat) (S : hS) (a0 : Nat) (x1 : Int32) (x2 : Int32) (x3 : Int32) (x4 : Int32) (x5 : Int32) (x6 : Int32) (H : Heap) (locs : List Loc) (ls : Array Slot), fX10_pack_32 fu k10 n S a0 x1 x2 x3 x4 x5 x6 = some z → h_V D (h_A S0) s S H locs → hl_has ls 7 [(0, .inr (some a0)), (1, .inl x1), (2, .inl x2), (3, .inl x3), (4, .inl x4), (5, .inl x5), (6, .inl x6)] → W p l e { frames := 2, cells := 0, slots := 0, locals := 45 } s m args below meth c H locs 0 0 (MQ below (h_Q D (h_A S0) (some (.int z.1)) z.2) args s 0 0 (h_A S0)) (F0 m 32 ls []) := by
  obtain ⟨-, hx, hb, hml, hown, hr, hlk, hK, hts⟩ := id C
  intro n
  induction n with
  | zero =>
    intro S a0 x1 x2 x3 x4 x5 x6 _ _ _ h hV hl
    rw [fX10_pack_32] at h
    cases h
  | succ n ih =>
    intro S a0 x1 x2 x3 x4 x5 x6 _ _ _ h hV hl
    rw [fX10_pack_32] at h
    refine lv_iload hx hb dX10_pack_32 (hi_at hl 6 rfl) ?_
    refine lv_iload hx hb dX10_pack_34 (hi_at hl 5 rfl) ?_
    refine lv_icmp_ge (tgt := 70) hx hb dX10_pack_36 (by decide) (fun c1 => ?_) (fun c1 => ?_)
    · rw [if_pos c1] at h
      exact kX10_pack_70 C fu k10 hk10 S a0 x1 x2 x3 x4 x5 _ _ _ h hV (hl_sub hl [0, 1, 2, 3, 4, 5] rfl)
    · rw [if_neg c1] at h
      refine lv_iload hx hb dX10_pack_39 (hi_at hl 4 rfl) ?_
      refine lv_iload_n hx hb dX10_pack_41 rfl (hi_at hl 1 rfl) ?_
      refine lv_icmp_eq (tgt := 70) hx hb dX10_pack_42 (by decide) (fun c2 => ?_) (fun c2 => ?_)
      · rw [if_pos c2] at h
        exact kX10_pack_70 C fu k10 hk10 S a0 x1 x2 x3 x4 x5 _ _ _ h hV (hl_sub hl [0, 1, 2, 3, 4, 5] rfl)
      · rw [if_neg c2] at h
        refine hr_aload_n hx hb dX10_pack_45 rfl (hr_at hl 0 rfl) ?_
        obtain ⟨v3, g4, h5⟩ := hbind h; clear h
        refine h_gR hx hb hown hV g4 (flRX10_69 hts hK) dX10_pack_46 ?_
        refine lv_iload_n hx hb dX10_pack_49 rfl (hi_at hl 1 rfl) ?_
        refine lv_iload hx hb dX10_pack_50 (hi_at hl 6 rfl) ?_
        refine lv_iadd hx hb dX10_pack_52 ?_
        refine hr_aload_n hx hb dX10_pack_53 rfl (hr_at hl 0 rfl) ?_
        obtain ⟨v6, g7, h8⟩ := hbind h5; clear h5
        refine h_gR hx hb hown hV g7 (flRX10_69 hts hK) dX10_pack_54 ?_
        refine lv_iload hx hb dX10_pack_57 (hi_at hl 4 rfl) ?_
        refine lv_iload hx hb dX10_pack_59 (hi_at hl 6 rfl) ?_
        refine lv_iadd hx hb dX10_pack_61 ?_
        obtain ⟨v9, g10, h11⟩ := hbind h8; clear h8
        refine h_iald hx hb hK hV g10 dX10_pack_62 ?_
        obtain ⟨S12, g13, h14⟩ := hbind h11; clear h11
        refine h_iast hx hb hK hV g13 dX10_pack_63 (fun H locs hV => ?_)
        refine h_iinc (v := (x6 + (1 : Int32))) (tl' := [(6, .inl (x6 + (1 : Int32))), (0, .inr (some a0)), (1, .inl x1), (2, .inl x2), (3, .inl x3), (4, .inl x4), (5, .inl x5)]) hx hb dX10_pack_64 hl (k := 6) rfl rfl (by decide) rfl (fun ls hl => ?_)
        refine lv_goto (tgt := 32) hx hb dX10_pack_67 (by decide) ?_
        exact ih S12 a0 x1 x2 x3 x4 x5 (x6 + (1 : Int32)) _ _ _ h14 hV (hl_sub hl [1, 2, 3, 4, 5, 6, 0] rfl)
def fX10_pack_10 (fu : Nat) : Nat → hS → Nat → Int32 → Int32 → Int32 → Option (Int32 × hS)
  | 0, _, _, _, _, _ => none
  | n + 1, S, a0, x1, x2, x3 => if x3 = (-1 : Int32) then (some (x2, S)) else ((rcv S 9 (some a0)).bind fun b4 =>
bn2 (fX10_beginOf fu S b4 x3) fun r2 S3 =>
(rcv S3 9 (some a0)).bind fun b12 =>
bn2 (fX10_sizeOf fu S3 b12 x3) fun r10 S11 =>
fX10_pack_32 fu (fX10_pack_10 fu n) fu S11 a0 x1 x2 x3 r2 r10 (0 : Int32))
set_option maxHeartbeats 4000000 in
set_option maxRecDepth 100000 in
theorem kX10_pack_10 {p : Program} {l : Launch} {e : Env} {s : State} {m : MethodId} {args : Array Value} {below : List Frame} {meth : Method} {c : Code} {D : hD} {S0 : hS} {z : Int32 × hS} (C : hCx p m c cX10_pack 7 s args RX10 meth (some .int) D) (fu : Nat) : ∀ (n : Nat) (S : hS) (a0 : Nat) (x1 : Int32) (x2 : Int32) (x3 : Int32) (H : Heap) (locs : List Loc) (ls : Array Slot), fX10_pack_10 fu n S a0 x1 x2 x3 = some z → h_V D (h_A S0) s S H locs → hl_has ls 7 [(0, .inr (some a0)), (1, .inl x1), (2, .inl x2), (3, .inl x3)] → W p l e { frames := 2, cells := 0, slots := 0, locals := 45 } s m args below meth c H locs 0 0 (MQ below (h_Q D (h_A S0) (some (.int z.1)) z.2) args s 0 0 (h_A S0)) (F0 m 10 ls []) := by
  obtain ⟨-, hx, hb, hml, hown, hr, hlk, hK, hts⟩ := id C
  intro n
  induction n with
  | zero =>
    intro S a0 x1 x2 x3 _ _ _ h hV hl
    rw [fX10_pack_10] at h
    cases h
  | succ n ih =>
    intro S a0 x1 x2 x3 _ _ _ h hV hl
    rw [fX10_pack_10] at h
    refine lv_iload_n hx hb dX10_pack_10 rfl (hi_at hl 3 rfl) ?_
    refine lv_iconst (v := -1) hx hb dX10_pack_11 (by decide) ?_
    refine lv_icmp_eq (tgt := 125) hx hb dX10_pack_12 (by decide) (fun c1 => ?_) (fun c1 => ?_)
    · rw [if_pos c1] at h
      refine lv_iload_n hx hb dX10_pack_125 rfl (hi_at hl 2 rfl) ?_
      exact h_iret hx hb hr hlk hV h (Nat.le_of_ble_eq_true rfl) (Nat.le_of_ble_eq_true rfl) dX10_pack_126
    · rw [if_neg c1] at h
      refine hr_aload_n hx hb dX10_pack_15 rfl (hr_at hl 0 rfl) ?_
      refine lv_iload_n hx hb dX10_pack_16 rfl (hi_at hl 3 rfl) ?_
      obtain ⟨b4, g5, h6⟩ := hbind h; clear h
      obtain ⟨_, _, e7, q7⟩ := rcv_inv g5
      obtain ⟨r2, S3, g8, h9⟩ := hbn2 h6; clear h6
      refine h_callV (n := 1) (As := [.int x3]) (rest := []) (st1 := [.int r2]) (fr := 0) (lo := 0) (mc := 0) (ms := 0) C.1 hK hV q7 rfl rfl wd823 wd820 wd822 wd47 wd83 ⟨by decide, by decide, by decide⟩ ⟨(Nat.le_of_ble_eq_true rfl), (Nat.le_of_ble_eq_true rfl)⟩ rfl hl.1 (hW_ok [] (Nat.le_of_ble_eq_true rfl)) dX10_pack_17 ⟨(Nat.le_of_ble_eq_true rfl), (Nat.le_of_ble_eq_true rfl)⟩ rfl (by rw [e7]; rfl) (mX10_beginOf l D fu S b4 x3 _ g8) (fun H locs hV => ?_)
      refine h_istore (tl' := [(4, .inl r2), (0, .inr (some a0)), (1, .inl x1), (2, .inl x2), (3, .inl x3)]) hx hb dX10_pack_20 hl (by decide) rfl (fun ls hl => ?_)
      refine hr_aload_n hx hb dX10_pack_22 rfl (hr_at hl 1 rfl) ?_
      refine lv_iload_n hx hb dX10_pack_23 rfl (hi_at hl 4 rfl) ?_
      obtain ⟨b12, g13, h14⟩ := hbind h9; clear h9
      obtain ⟨_, _, e15, q15⟩ := rcv_inv g13
      obtain ⟨r10, S11, g16, h17⟩ := hbn2 h14; clear h14
      refine h_callV (n := 1) (As := [.int x3]) (rest := []) (st1 := [.int r10]) (fr := 1) (lo := 21) (mc := 0) (ms := 0) C.1 hK hV q15 rfl rfl wd827 wd824 wd826 wd48 wd83 ⟨by decide, by decide, by decide⟩ ⟨(Nat.le_of_ble_eq_true rfl), (Nat.le_of_ble_eq_true rfl)⟩ rfl hl.1 (hW_ok [] (Nat.le_of_ble_eq_true rfl)) dX10_pack_24 ⟨(Nat.le_of_ble_eq_true rfl), (Nat.le_of_ble_eq_true rfl)⟩ rfl (by rw [e15]; rfl) (mX10_sizeOf l D fu S3 b12 x3 _ g16) (fun H locs hV => ?_)
      refine h_istore (tl' := [(5, .inl r10), (4, .inl r2), (0, .inr (some a0)), (1, .inl x1), (2, .inl x2), (3, .inl x3)]) hx hb dX10_pack_27 hl (by decide) rfl (fun ls hl => ?_)
      refine lv_iconst (v := 0) hx hb dX10_pack_29 (by decide) ?_
      refine h_istore (tl' := [(6, .inl (0 : Int32)), (5, .inl r10), (4, .inl r2), (0, .inr (some a0)), (1, .inl x1), (2, .inl x2), (3, .inl x3)]) hx hb dX10_pack_30 hl (by decide) rfl (fun ls hl => ?_)
      exact kX10_pack_32 C fu (fX10_pack_10 fu n) ih fu S11 a0 x1 x2 x3 r2 r10 (0 : Int32) _ _ _ h17 hV (hl_sub hl [3, 4, 5, 6, 2, 1, 0] rfl)
def fX10_pack (fu : Nat) (S : hS) (a0 : Nat) : Option (Int32 × hS) := (rcv S 9 (some a0)).bind fun b3 => bn2 (fX10_nextFrom fu S b3 (0 : Int32)) fun r1 S2 => fX10_pack_10 fu fu S2 a0 (0 : Int32) (0 : Int32) r1
set_option maxHeartbeats 4000000 in
set_option maxRecDepth 100000 in
theorem mX10_pack (l : Launch) (D : hD) (fu : Nat) (S : hS) (a0 : Nat) (z : Int32 × hS) (h : fX10_pack fu S a0 = some z) : hM l D yX10_pack cX10_pack 7 (some .int) 2 45 0 0 [va_rf (some a0)] S (some (.int z.1)) z.2 := by
  refine h_body [.inr (some a0)] RX10 (by decide) rfl (Nat.le_of_ble_eq_true rfl) ?_
  intro p e s m args below meth c C hin ls hV hl
  obtain ⟨-, hx, hb, hml, hown, hr, hlk, hK, hts⟩ := id C
  unfold fX10_pack at h
  refine lv_iconst (v := 0) hx hb dX10_pack_0 (by decide) ?_
  refine h_istore_n (tl' := [(1, .inl (0 : Int32)), (0, .inr (some a0))]) hx hb dX10_pack_1 rfl hl (by decide) rfl (fun ls hl => ?_)
  refine lv_iconst (v := 0) hx hb dX10_pack_2 (by decide) ?_
  refine h_istore_n (tl' := [(2, .inl (0 : Int32)), (1, .inl (0 : Int32)), (0, .inr (some a0))]) hx hb dX10_pack_3 rfl hl (by decide) rfl (fun ls hl => ?_)
  refine hr_aload_n hx hb dX10_pack_4 rfl (hr_at hl 2 rfl) ?_
  refine lv_iconst (v := 0) hx hb dX10_pack_5 (by decide) ?_
  obtain ⟨b3, g4, h5⟩ := hbind h; clear h
  obtain ⟨_, _, e6, q6⟩ := rcv_inv g4
  obtain ⟨r1, S2, g7, h8⟩ := hbn2 h5; clear h5
  refine h_callV (n := 1) (As := [.int (0 : Int32)]) (rest := []) (st1 := [.int r1]) (fr := 1) (lo := 21) (mc := 0) (ms := 0) C.1 hK hV q6 rfl rfl wd819 wd816 wd818 wd46 wd83 ⟨by decide, by decide, by decide⟩ ⟨(Nat.le_of_ble_eq_true rfl), (Nat.le_of_ble_eq_true rfl)⟩ rfl hl.1 (hW_ok [] (Nat.le_of_ble_eq_true rfl)) dX10_pack_6 ⟨(Nat.le_of_ble_eq_true rfl), (Nat.le_of_ble_eq_true rfl)⟩ rfl (by rw [e6]; rfl) (mX10_nextFrom l D fu S b3 (0 : Int32) _ g7) (fun H locs hV => ?_)
  refine h_istore_n (tl' := [(3, .inl r1), (2, .inl (0 : Int32)), (1, .inl (0 : Int32)), (0, .inr (some a0))]) hx hb dX10_pack_9 rfl hl (by decide) rfl (fun ls hl => ?_)
  exact kX10_pack_10 C fu fu S2 a0 (0 : Int32) (0 : Int32) r1 _ _ _ h8 hV (hl_sub hl [3, 2, 1, 0] rfl)
def fX10_at (fu : Nat) (S : hS) (a0 : Nat) (x1 : Int32) : Option (Int32 × hS) := (gR S 9 3 (some a0)).bind fun v1 => (gR S 9 9 (some a0)).bind fun v4 => (gI S 9 20 (some a0)).bind fun v7 => (aI S 10 v4 v7).bind fun v10 => (aI S 10 v1 (v10 + x1)).bind fun v13 => some (v13, S)
set_option maxHeartbeats 4000000 in
set_option maxRecDepth 100000 in
theorem mX10_at (l : Launch) (D : hD) (fu : Nat) (S : hS) (a0 : Nat) (x1 : Int32) (z : Int32 × hS) (h : fX10_at fu S a0 x1 = some z) : hM l D yX10_at cX10_at 2 (some .int) 0 0 0 0 [va_rf (some a0), .int x1] S (some (.int z.1)) z.2 := by
  refine h_body [.inr (some a0), .inl x1] RX10 (by decide) rfl (Nat.le_of_ble_eq_true rfl) ?_
  intro p e s m args below meth c C hin ls hV hl
  obtain ⟨-, hx, hb, hml, hown, hr, hlk, hK, hts⟩ := id C
  unfold fX10_at at h
  refine hr_aload_n hx hb dX10_at_0 rfl (hr_at hl 0 rfl) ?_
  obtain ⟨v1, g2, h3⟩ := hbind h; clear h
  refine h_gR hx hb hown hV g2 (flRX10_69 hts hK) dX10_at_1 ?_
  refine hr_aload_n hx hb dX10_at_4 rfl (hr_at hl 0 rfl) ?_
  obtain ⟨v4, g5, h6⟩ := hbind h3; clear h3
  refine h_gR hx hb hown hV g5 (flRX10_25 hts hK) dX10_at_5 ?_
  refine hr_aload_n hx hb dX10_at_8 rfl (hr_at hl 0 rfl) ?_
  obtain ⟨v7, g8, h9⟩ := hbind h6; clear h6
  refine h_gI hx hb hown hV g8 (flRX10_119 hts hK) dX10_at_9 ?_
  obtain ⟨v10, g11, h12⟩ := hbind h9; clear h9
  refine h_iald hx hb hK hV g11 dX10_at_12 ?_
  refine lv_iload_n hx hb dX10_at_13 rfl (hi_at hl 1 rfl) ?_
  refine lv_iadd hx hb dX10_at_14 ?_
  obtain ⟨v13, g14, h15⟩ := hbind h12; clear h12
  refine h_iald hx hb hK hV g14 dX10_at_15 ?_
  exact h_iret hx hb hr hlk hV h15 (Nat.le_of_ble_eq_true rfl) (Nat.le_of_ble_eq_true rfl) dX10_at_16
def fX10_stepsGo_75 (fu : Nat) (S : hS) (a0 : Nat) : Option (Int32 × hS) := (rcv S 9 (some a0)).bind fun b3 => bn2 (fX10_stepsStand fu S b3) fun r1 S2 => (zz r1).bind (fun v => some (v, S2))
set_option maxHeartbeats 4000000 in
set_option maxRecDepth 100000 in
theorem kX10_stepsGo_75 {p : Program} {l : Launch} {e : Env} {s : State} {m : MethodId} {args : Array Value} {below : List Frame} {meth : Method} {c : Code} {D : hD} {S0 : hS} {z : Int32 × hS} (C : hCx p m c cX10_stepsGo 1 s args RX10 meth (some .boolean) D) (fu : Nat) : ∀ (S : hS) (a0 : Nat) (H : Heap) (locs : List Loc) (ls : Array Slot), fX10_stepsGo_75 fu S a0 = some z → h_V D (h_A S0) s S H locs → hl_has ls 1 [(0, .inr (some a0))] → W p l e { frames := 1, cells := 0, slots := 0, locals := 23 } s m args below meth c H locs 0 0 (MQ below (h_Q D (h_A S0) (some (.int z.1)) z.2) args s 0 0 (h_A S0)) (F0 m 75 ls []) := by
  obtain ⟨-, hx, hb, hml, hown, hr, hlk, hK, hts⟩ := id C
  intro S a0 _ _ _ h hV hl
  unfold fX10_stepsGo_75 at h
  refine hr_aload_n hx hb dX10_stepsGo_75 rfl (hr_at hl 0 rfl) ?_
  obtain ⟨b3, g4, h5⟩ := hbind h; clear h
  obtain ⟨_, _, e6, q6⟩ := rcv_inv g4
  obtain ⟨r1, S2, g7, h8⟩ := hbn2 h5; clear h5
  refine h_callV (n := 0) (As := []) (rest := []) (st1 := [.int r1]) (fr := 0) (lo := 0) (mc := 0) (ms := 0) C.1 hK hV q6 rfl rfl wd867 wd864 wd866 wd55 wd83 ⟨by decide, by decide, by decide⟩ ⟨(Nat.le_of_ble_eq_true rfl), (Nat.le_of_ble_eq_true rfl)⟩ rfl hl.1 (hW_ok [] (Nat.le_of_ble_eq_true rfl)) dX10_stepsGo_76 ⟨(Nat.le_of_ble_eq_true rfl), (Nat.le_of_ble_eq_true rfl)⟩ rfl (by rw [e6]; rfl) (mX10_stepsStand l D fu S b3 _ g7) (fun H locs hV => ?_)
  exact h_zret hx hb hr hlk hV h8 (Nat.le_of_ble_eq_true rfl) (Nat.le_of_ble_eq_true rfl) dX10_stepsGo_79
def fX10_stepsGo (fu : Nat) (S : hS) (a0 : Nat) : Option (Int32 × hS) := (gI S 9 24 (some a0)).bind fun v1 => (gI S 9 22 (some a0)).bind fun v4 => (rcv S 9 (some a0)).bind fun b9 => bn2 (fX10_at fu S b9 (v1 - v4)) fun r7 S8 => (gI S8 9 24 (some a0)).bind fun v15 => (rcv S8 9 (some a0)).bind fun b20 => bn2 (fX10_at fu S8 b20 v15) fun r18 S19 => if r7 ≤ r18 then ((gI S19 9 23 (some a0)).bind fun v27 =>
(pV S19 9 23 (some a0) (.int (v27 + (1 : Int32)))).bind fun S30 =>
(gI S30 9 23 (some a0)).bind fun v33 =>
(pV S30 9 24 (some a0) (.int v33)).bind fun S36 =>
fX10_stepsGo_75 fu S36 a0) else ((gI S19 9 24 (some a0)).bind fun v39 =>
(gI S19 9 22 (some a0)).bind fun v42 =>
(gI S19 9 24 (some a0)).bind fun v45 =>
(rcv S19 9 (some a0)).bind fun b50 =>
bn2 (fX10_change fu S19 b50 (v39 - v42) v45) fun _ S49 =>
(gI S49 9 24 (some a0)).bind fun v56 =>
(gI S49 9 22 (some a0)).bind fun v59 =>
(pV S49 9 24 (some a0) (.int (v56 - v59))).bind fun S62 =>
fX10_stepsGo_75 fu S62 a0)
set_option maxHeartbeats 4000000 in
set_option maxRecDepth 100000 in
theorem mX10_stepsGo (l : Launch) (D : hD) (fu : Nat) (S : hS) (a0 : Nat) (z : Int32 × hS) (h : fX10_stepsGo fu S a0 = some z) : hM l D yX10_stepsGo cX10_stepsGo 1 (some .boolean) 1 23 0 0 [va_rf (some a0)] S (some (.int z.1)) z.2 := by
  refine h_body [.inr (some a0)] RX10 (by decide) rfl (Nat.le_of_ble_eq_true rfl) ?_
  intro p e s m args below meth c C hin ls hV hl
  obtain ⟨-, hx, hb, hml, hown, hr, hlk, hK, hts⟩ := id C
  unfold fX10_stepsGo at h
  refine hr_aload_n hx hb dX10_stepsGo_0 rfl (hr_at hl 0 rfl) ?_
  refine hr_aload_n hx hb dX10_stepsGo_1 rfl (hr_at hl 0 rfl) ?_
  obtain ⟨v1, g2, h3⟩ := hbind h; clear h
  refine h_gI hx hb hown hV g2 (flRX10_131 hts hK) dX10_stepsGo_2 ?_
  refine hr_aload_n hx hb dX10_stepsGo_5 rfl (hr_at hl 0 rfl) ?_
  obtain ⟨v4, g5, h6⟩ := hbind h3; clear h3
  refine h_gI hx hb hown hV g5 (flRX10_125 hts hK) dX10_stepsGo_6 ?_
  refine lv_isub hx hb dX10_stepsGo_9 ?_
  obtain ⟨b9, g10, h11⟩ := hbind h6; clear h6
  obtain ⟨_, _, e12, q12⟩ := rcv_inv g10
  obtain ⟨r7, S8, g13, h14⟩ := hbn2 h11; clear h11
  refine h_callV (n := 1) (As := [.int (v1 - v4)]) (rest := []) (st1 := [.int r7]) (fr := 0) (lo := 0) (mc := 0) (ms := 0) C.1 hK hV q12 rfl rfl wd951 wd948 wd950 wd71 wd83 ⟨by decide, by decide, by decide⟩ ⟨(Nat.le_of_ble_eq_true rfl), (Nat.le_of_ble_eq_true rfl)⟩ rfl hl.1 (hW_ok [] (Nat.le_of_ble_eq_true rfl)) dX10_stepsGo_10 ⟨(Nat.le_of_ble_eq_true rfl), (Nat.le_of_ble_eq_true rfl)⟩ rfl (by rw [e12]; rfl) (mX10_at l D fu S b9 (v1 - v4) _ g13) (fun H locs hV => ?_)
  refine hr_aload_n hx hb dX10_stepsGo_13 rfl (hr_at hl 0 rfl) ?_
  refine hr_aload_n hx hb dX10_stepsGo_14 rfl (hr_at hl 0 rfl) ?_
  obtain ⟨v15, g16, h17⟩ := hbind h14; clear h14
  refine h_gI hx hb hown hV g16 (flRX10_131 hts hK) dX10_stepsGo_15 ?_
  obtain ⟨b20, g21, h22⟩ := hbind h17; clear h17
  obtain ⟨_, _, e23, q23⟩ := rcv_inv g21
  obtain ⟨r18, S19, g24, h25⟩ := hbn2 h22; clear h22
  refine h_callV (n := 1) (As := [.int v15]) (rest := [.int r7]) (st1 := [.int r18, .int r7]) (fr := 0) (lo := 0) (mc := 0) (ms := 0) C.1 hK hV q23 rfl rfl wd951 wd948 wd950 wd71 wd83 ⟨by decide, by decide, by decide⟩ ⟨(Nat.le_of_ble_eq_true rfl), (Nat.le_of_ble_eq_true rfl)⟩ rfl hl.1 (hW_ok [.inl r7] (Nat.le_of_ble_eq_true rfl)) dX10_stepsGo_18 ⟨(Nat.le_of_ble_eq_true rfl), (Nat.le_of_ble_eq_true rfl)⟩ rfl (by rw [e23]; rfl) (mX10_at l D fu S8 b20 v15 _ g24) (fun H locs hV => ?_)
  refine lv_icmp_le (tgt := 57) hx hb dX10_stepsGo_21 (by decide) (fun c26 => ?_) (fun c26 => ?_)
  · rw [if_pos c26] at h25
    refine hr_aload_n hx hb dX10_stepsGo_57 rfl (hr_at hl 0 rfl) ?_
    refine hr_dup hx hb dX10_stepsGo_58 ?_
    obtain ⟨v27, g28, h29⟩ := hbind h25; clear h25
    refine h_gI hx hb hown hV g28 (flRX10_128 hts hK) dX10_stepsGo_59 ?_
    refine lv_iconst (v := 1) hx hb dX10_stepsGo_62 (by decide) ?_
    refine lv_iadd hx hb dX10_stepsGo_63 ?_
    obtain ⟨S30, g31, h32⟩ := hbind h29; clear h29
    refine h_put hx hb hown hV g31 (fpRX10_128 hts hK) rfl rfl dX10_stepsGo_64 (fun H locs hV => ?_)
    refine hr_aload_n hx hb dX10_stepsGo_67 rfl (hr_at hl 0 rfl) ?_
    refine hr_aload_n hx hb dX10_stepsGo_68 rfl (hr_at hl 0 rfl) ?_
    obtain ⟨v33, g34, h35⟩ := hbind h32; clear h32
    refine h_gI hx hb hown hV g34 (flRX10_128 hts hK) dX10_stepsGo_69 ?_
    obtain ⟨S36, g37, h38⟩ := hbind h35; clear h35
    refine h_put hx hb hown hV g37 (fpRX10_131 hts hK) rfl rfl dX10_stepsGo_72 (fun H locs hV => ?_)
    exact kX10_stepsGo_75 C fu S36 a0 _ _ _ h38 hV (hl_sub hl [0] rfl)
  · rw [if_neg c26] at h25
    refine hr_aload_n hx hb dX10_stepsGo_24 rfl (hr_at hl 0 rfl) ?_
    refine hr_aload_n hx hb dX10_stepsGo_25 rfl (hr_at hl 0 rfl) ?_
    obtain ⟨v39, g40, h41⟩ := hbind h25; clear h25
    refine h_gI hx hb hown hV g40 (flRX10_131 hts hK) dX10_stepsGo_26 ?_
    refine hr_aload_n hx hb dX10_stepsGo_29 rfl (hr_at hl 0 rfl) ?_
    obtain ⟨v42, g43, h44⟩ := hbind h41; clear h41
    refine h_gI hx hb hown hV g43 (flRX10_125 hts hK) dX10_stepsGo_30 ?_
    refine lv_isub hx hb dX10_stepsGo_33 ?_
    refine hr_aload_n hx hb dX10_stepsGo_34 rfl (hr_at hl 0 rfl) ?_
    obtain ⟨v45, g46, h47⟩ := hbind h44; clear h44
    refine h_gI hx hb hown hV g46 (flRX10_131 hts hK) dX10_stepsGo_35 ?_
    obtain ⟨b50, g51, h52⟩ := hbind h47; clear h47
    obtain ⟨_, _, e53, q53⟩ := rcv_inv g51
    obtain ⟨r48, S49, g54, h55⟩ := hbn2 h52; clear h52
    refine h_callV (n := 2) (As := [.int (v39 - v42), .int v45]) (rest := []) (st1 := []) (fr := 0) (lo := 0) (mc := 0) (ms := 0) C.1 hK hV q53 rfl rfl wd879 wd876 wd878 wd58 wd83 ⟨by decide, by decide, by decide⟩ ⟨(Nat.le_of_ble_eq_true rfl), (Nat.le_of_ble_eq_true rfl)⟩ rfl hl.1 (hW_ok [] (Nat.le_of_ble_eq_true rfl)) dX10_stepsGo_38 ⟨(Nat.le_of_ble_eq_true rfl), (Nat.le_of_ble_eq_true rfl)⟩ rfl (by rw [e53]; rfl) (mX10_change l D fu S19 b50 (v39 - v42) v45 _ g54) (fun H locs hV => ?_)
    refine hr_aload_n hx hb dX10_stepsGo_41 rfl (hr_at hl 0 rfl) ?_
    refine hr_dup hx hb dX10_stepsGo_42 ?_
    obtain ⟨v56, g57, h58⟩ := hbind h55; clear h55
    refine h_gI hx hb hown hV g57 (flRX10_131 hts hK) dX10_stepsGo_43 ?_
    refine hr_aload_n hx hb dX10_stepsGo_46 rfl (hr_at hl 0 rfl) ?_
    obtain ⟨v59, g60, h61⟩ := hbind h58; clear h58
    refine h_gI hx hb hown hV g60 (flRX10_125 hts hK) dX10_stepsGo_47 ?_
    refine lv_isub hx hb dX10_stepsGo_50 ?_
    obtain ⟨S62, g63, h64⟩ := hbind h61; clear h61
    refine h_put hx hb hown hV g63 (fpRX10_131 hts hK) rfl rfl dX10_stepsGo_51 (fun H locs hV => ?_)
    refine lv_goto (tgt := 75) hx hb dX10_stepsGo_54 (by decide) ?_
    exact kX10_stepsGo_75 C fu S62 a0 _ _ _ h64 hV (hl_sub hl [0] rfl)
def fX10_heapGoes_93 (fu : Nat) (S : hS) (a0 : Nat) : Option (Int32 × hS) := (rcv S 9 (some a0)).bind fun b3 => bn2 (fX10_heapNext fu S b3) fun r1 S2 => (zz r1).bind (fun v => some (v, S2))
set_option maxHeartbeats 4000000 in
set_option maxRecDepth 100000 in
theorem kX10_heapGoes_93 {p : Program} {l : Launch} {e : Env} {s : State} {m : MethodId} {args : Array Value} {below : List Frame} {meth : Method} {c : Code} {D : hD} {S0 : hS} {z : Int32 × hS} (C : hCx p m c cX10_heapGoes 1 s args RX10 meth (some .boolean) D) (fu : Nat) : ∀ (S : hS) (a0 : Nat) (H : Heap) (locs : List Loc) (ls : Array Slot), fX10_heapGoes_93 fu S a0 = some z → h_V D (h_A S0) s S H locs → hl_has ls 1 [(0, .inr (some a0))] → W p l e { frames := 2, cells := 0, slots := 0, locals := 43 } s m args below meth c H locs 0 0 (MQ below (h_Q D (h_A S0) (some (.int z.1)) z.2) args s 0 0 (h_A S0)) (F0 m 93 ls []) := by
  obtain ⟨-, hx, hb, hml, hown, hr, hlk, hK, hts⟩ := id C
  intro S a0 _ _ _ h hV hl
  unfold fX10_heapGoes_93 at h
  refine hr_aload_n hx hb dX10_heapGoes_93 rfl (hr_at hl 0 rfl) ?_
  obtain ⟨b3, g4, h5⟩ := hbind h; clear h
  obtain ⟨_, _, e6, q6⟩ := rcv_inv g4
  obtain ⟨r1, S2, g7, h8⟩ := hbn2 h5; clear h5
  refine h_callV (n := 0) (As := []) (rest := []) (st1 := [.int r1]) (fr := 1) (lo := 23) (mc := 0) (ms := 0) C.1 hK hV q6 rfl rfl wd875 wd872 wd874 wd57 wd83 ⟨by decide, by decide, by decide⟩ ⟨(Nat.le_of_ble_eq_true rfl), (Nat.le_of_ble_eq_true rfl)⟩ rfl hl.1 (hW_ok [] (Nat.le_of_ble_eq_true rfl)) dX10_heapGoes_94 ⟨(Nat.le_of_ble_eq_true rfl), (Nat.le_of_ble_eq_true rfl)⟩ rfl (by rw [e6]; rfl) (mX10_heapNext l D fu S b3 _ g7) (fun H locs hV => ?_)
  exact h_zret hx hb hr hlk hV h8 (Nat.le_of_ble_eq_true rfl) (Nat.le_of_ble_eq_true rfl) dX10_heapGoes_97
def fX10_heapGoes_38 (fu : Nat) (S : hS) (a0 : Nat) : Option (Int32 × hS) := (pV S 9 25 (some a0) (.int (1 : Int32))).bind fun S1 => (zz (1 : Int32)).bind (fun v => some (v, S1))
set_option maxHeartbeats 4000000 in
set_option maxRecDepth 100000 in
theorem kX10_heapGoes_38 {p : Program} {l : Launch} {e : Env} {s : State} {m : MethodId} {args : Array Value} {below : List Frame} {meth : Method} {c : Code} {D : hD} {S0 : hS} {z : Int32 × hS} (C : hCx p m c cX10_heapGoes 1 s args RX10 meth (some .boolean) D) (fu : Nat) : ∀ (S : hS) (a0 : Nat) (H : Heap) (locs : List Loc) (ls : Array Slot), fX10_heapGoes_38 fu S a0 = some z → h_V D (h_A S0) s S H locs → hl_has ls 1 [(0, .inr (some a0))] → W p l e { frames := 2, cells := 0, slots := 0, locals := 43 } s m args below meth c H locs 0 0 (MQ below (h_Q D (h_A S0) (some (.int z.1)) z.2) args s 0 0 (h_A S0)) (F0 m 38 ls []) := by
  obtain ⟨-, hx, hb, hml, hown, hr, hlk, hK, hts⟩ := id C
  intro S a0 _ _ _ h hV hl
  unfold fX10_heapGoes_38 at h
  refine hr_aload_n hx hb dX10_heapGoes_38 rfl (hr_at hl 0 rfl) ?_
  refine lv_iconst (v := 1) hx hb dX10_heapGoes_39 (by decide) ?_
  obtain ⟨S1, g2, h3⟩ := hbind h; clear h
  refine h_put hx hb hown hV g2 (fpRX10_134 hts hK) rfl rfl dX10_heapGoes_40 (fun H locs hV => ?_)
  refine lv_iconst (v := 1) hx hb dX10_heapGoes_43 (by decide) ?_
  exact h_zret hx hb hr hlk hV h3 (Nat.le_of_ble_eq_true rfl) (Nat.le_of_ble_eq_true rfl) dX10_heapGoes_44
def fX10_heapGoes (fu : Nat) (S : hS) (a0 : Nat) : Option (Int32 × hS) := (gI S 9 25 (some a0)).bind fun v1 => if v1 = 0 then ((gI S 9 24 (some a0)).bind fun v57 =>
(rcv S 9 (some a0)).bind fun b62 =>
bn2 (fX10_at fu S b62 v57) fun r60 S61 =>
(gI S61 9 24 (some a0)).bind fun v68 =>
(rcv S61 9 (some a0)).bind fun b73 =>
bn2 (fX10_at fu S61 b73 (v68 + (1 : Int32))) fun r71 S72 =>
if r71 ≤ r60 then (fX10_heapGoes_38 fu S72 a0) else ((gI S72 9 24 (some a0)).bind fun v80 =>
(pV S72 9 24 (some a0) (.int (v80 + (1 : Int32)))).bind fun S83 =>
fX10_heapGoes_38 fu S83 a0)) else ((gI S 9 22 (some a0)).bind fun v5 =>
(rcv S 9 (some a0)).bind fun b10 =>
bn2 (fX10_at fu S b10 v5) fun r8 S9 =>
(gI S9 9 24 (some a0)).bind fun v16 =>
(rcv S9 9 (some a0)).bind fun b21 =>
bn2 (fX10_at fu S9 b21 v16) fun r19 S20 =>
if r19 ≤ r8 then (fX10_heapGoes_93 fu S20 a0) else ((gI S20 9 22 (some a0)).bind fun v28 =>
(gI S20 9 24 (some a0)).bind fun v31 =>
(rcv S20 9 (some a0)).bind fun b36 =>
bn2 (fX10_change fu S20 b36 v28 v31) fun _ S35 =>
(gI S35 9 24 (some a0)).bind fun v42 =>
(pV S35 9 22 (some a0) (.int v42)).bind fun S45 =>
(rcv S45 9 (some a0)).bind fun b50 =>
bn2 (fX10_heapStands fu S45 b50) fun r48 S49 =>
if r48 = 0 then (fX10_heapGoes_93 fu S49 a0) else ((zz (1 : Int32)).bind (fun v => some (v, S49)))))
set_option maxHeartbeats 4000000 in
set_option maxRecDepth 100000 in
theorem mX10_heapGoes (l : Launch) (D : hD) (fu : Nat) (S : hS) (a0 : Nat) (z : Int32 × hS) (h : fX10_heapGoes fu S a0 = some z) : hM l D yX10_heapGoes cX10_heapGoes 1 (some .boolean) 2 43 0 0 [va_rf (some a0)] S (some (.int z.1)) z.2 := by
  refine h_body [.inr (some a0)] RX10 (by decide) rfl (Nat.le_of_ble_eq_true rfl) ?_
  intro p e s m args below meth c C hin ls hV hl
  obtain ⟨-, hx, hb, hml, hown, hr, hlk, hK, hts⟩ := id C
  unfold fX10_heapGoes at h
  refine hr_aload_n hx hb dX10_heapGoes_0 rfl (hr_at hl 0 rfl) ?_
  obtain ⟨v1, g2, h3⟩ := hbind h; clear h
  refine h_gI hx hb hown hV g2 (flRX10_134 hts hK) dX10_heapGoes_1 ?_
  refine lv_if_ne (tgt := 45) hx hb dX10_heapGoes_4 (by decide) (fun c4 => ?_) (fun c4 => ?_)
  · rw [if_neg c4] at h3
    refine hr_aload_n hx hb dX10_heapGoes_45 rfl (hr_at hl 0 rfl) ?_
    refine hr_aload_n hx hb dX10_heapGoes_46 rfl (hr_at hl 0 rfl) ?_
    obtain ⟨v5, g6, h7⟩ := hbind h3; clear h3
    refine h_gI hx hb hown hV g6 (flRX10_125 hts hK) dX10_heapGoes_47 ?_
    obtain ⟨b10, g11, h12⟩ := hbind h7; clear h7
    obtain ⟨_, _, e13, q13⟩ := rcv_inv g11
    obtain ⟨r8, S9, g14, h15⟩ := hbn2 h12; clear h12
    refine h_callV (n := 1) (As := [.int v5]) (rest := []) (st1 := [.int r8]) (fr := 0) (lo := 0) (mc := 0) (ms := 0) C.1 hK hV q13 rfl rfl wd951 wd948 wd950 wd71 wd83 ⟨by decide, by decide, by decide⟩ ⟨(Nat.le_of_ble_eq_true rfl), (Nat.le_of_ble_eq_true rfl)⟩ rfl hl.1 (hW_ok [] (Nat.le_of_ble_eq_true rfl)) dX10_heapGoes_50 ⟨(Nat.le_of_ble_eq_true rfl), (Nat.le_of_ble_eq_true rfl)⟩ rfl (by rw [e13]; rfl) (mX10_at l D fu S b10 v5 _ g14) (fun H locs hV => ?_)
    refine hr_aload_n hx hb dX10_heapGoes_53 rfl (hr_at hl 0 rfl) ?_
    refine hr_aload_n hx hb dX10_heapGoes_54 rfl (hr_at hl 0 rfl) ?_
    obtain ⟨v16, g17, h18⟩ := hbind h15; clear h15
    refine h_gI hx hb hown hV g17 (flRX10_131 hts hK) dX10_heapGoes_55 ?_
    obtain ⟨b21, g22, h23⟩ := hbind h18; clear h18
    obtain ⟨_, _, e24, q24⟩ := rcv_inv g22
    obtain ⟨r19, S20, g25, h26⟩ := hbn2 h23; clear h23
    refine h_callV (n := 1) (As := [.int v16]) (rest := [.int r8]) (st1 := [.int r19, .int r8]) (fr := 0) (lo := 0) (mc := 0) (ms := 0) C.1 hK hV q24 rfl rfl wd951 wd948 wd950 wd71 wd83 ⟨by decide, by decide, by decide⟩ ⟨(Nat.le_of_ble_eq_true rfl), (Nat.le_of_ble_eq_true rfl)⟩ rfl hl.1 (hW_ok [.inl r8] (Nat.le_of_ble_eq_true rfl)) dX10_heapGoes_58 ⟨(Nat.le_of_ble_eq_true rfl), (Nat.le_of_ble_eq_true rfl)⟩ rfl (by rw [e24]; rfl) (mX10_at l D fu S9 b21 v16 _ g25) (fun H locs hV => ?_)
    refine lv_icmp_ge (tgt := 93) hx hb dX10_heapGoes_61 (by decide) (fun c27 => ?_) (fun c27 => ?_)
    · rw [if_pos c27] at h26
      exact kX10_heapGoes_93 C fu S20 a0 _ _ _ h26 hV (hl_sub hl [0] rfl)
    · rw [if_neg c27] at h26
      refine hr_aload_n hx hb dX10_heapGoes_64 rfl (hr_at hl 0 rfl) ?_
      refine hr_aload_n hx hb dX10_heapGoes_65 rfl (hr_at hl 0 rfl) ?_
      obtain ⟨v28, g29, h30⟩ := hbind h26; clear h26
      refine h_gI hx hb hown hV g29 (flRX10_125 hts hK) dX10_heapGoes_66 ?_
      refine hr_aload_n hx hb dX10_heapGoes_69 rfl (hr_at hl 0 rfl) ?_
      obtain ⟨v31, g32, h33⟩ := hbind h30; clear h30
      refine h_gI hx hb hown hV g32 (flRX10_131 hts hK) dX10_heapGoes_70 ?_
      obtain ⟨b36, g37, h38⟩ := hbind h33; clear h33
      obtain ⟨_, _, e39, q39⟩ := rcv_inv g37
      obtain ⟨r34, S35, g40, h41⟩ := hbn2 h38; clear h38
      refine h_callV (n := 2) (As := [.int v28, .int v31]) (rest := []) (st1 := []) (fr := 0) (lo := 0) (mc := 0) (ms := 0) C.1 hK hV q39 rfl rfl wd879 wd876 wd878 wd58 wd83 ⟨by decide, by decide, by decide⟩ ⟨(Nat.le_of_ble_eq_true rfl), (Nat.le_of_ble_eq_true rfl)⟩ rfl hl.1 (hW_ok [] (Nat.le_of_ble_eq_true rfl)) dX10_heapGoes_73 ⟨(Nat.le_of_ble_eq_true rfl), (Nat.le_of_ble_eq_true rfl)⟩ rfl (by rw [e39]; rfl) (mX10_change l D fu S20 b36 v28 v31 _ g40) (fun H locs hV => ?_)
      refine hr_aload_n hx hb dX10_heapGoes_76 rfl (hr_at hl 0 rfl) ?_
      refine hr_aload_n hx hb dX10_heapGoes_77 rfl (hr_at hl 0 rfl) ?_
      obtain ⟨v42, g43, h44⟩ := hbind h41; clear h41
      refine h_gI hx hb hown hV g43 (flRX10_131 hts hK) dX10_heapGoes_78 ?_
      obtain ⟨S45, g46, h47⟩ := hbind h44; clear h44
      refine h_put hx hb hown hV g46 (fpRX10_125 hts hK) rfl rfl dX10_heapGoes_81 (fun H locs hV => ?_)
      refine hr_aload_n hx hb dX10_heapGoes_84 rfl (hr_at hl 0 rfl) ?_
      obtain ⟨b50, g51, h52⟩ := hbind h47; clear h47
      obtain ⟨_, _, e53, q53⟩ := rcv_inv g51
      obtain ⟨r48, S49, g54, h55⟩ := hbn2 h52; clear h52
      refine h_callV (n := 0) (As := []) (rest := []) (st1 := [.int r48]) (fr := 0) (lo := 0) (mc := 0) (ms := 0) C.1 hK hV q53 rfl rfl wd883 wd880 wd882 wd59 wd83 ⟨by decide, by decide, by decide⟩ ⟨(Nat.le_of_ble_eq_true rfl), (Nat.le_of_ble_eq_true rfl)⟩ rfl hl.1 (hW_ok [] (Nat.le_of_ble_eq_true rfl)) dX10_heapGoes_85 ⟨(Nat.le_of_ble_eq_true rfl), (Nat.le_of_ble_eq_true rfl)⟩ rfl (by rw [e53]; rfl) (mX10_heapStands l D fu S45 b50 _ g54) (fun H locs hV => ?_)
      refine lv_if_eq (tgt := 93) hx hb dX10_heapGoes_88 (by decide) (fun c56 => ?_) (fun c56 => ?_)
      · rw [if_pos c56] at h55
        exact kX10_heapGoes_93 C fu S49 a0 _ _ _ h55 hV (hl_sub hl [0] rfl)
      · rw [if_neg c56] at h55
        refine lv_iconst (v := 1) hx hb dX10_heapGoes_91 (by decide) ?_
        exact h_zret hx hb hr hlk hV h55 (Nat.le_of_ble_eq_true rfl) (Nat.le_of_ble_eq_true rfl) dX10_heapGoes_92
  · rw [if_pos c4] at h3
    refine hr_aload_n hx hb dX10_heapGoes_7 rfl (hr_at hl 0 rfl) ?_
    refine hr_aload_n hx hb dX10_heapGoes_8 rfl (hr_at hl 0 rfl) ?_
    obtain ⟨v57, g58, h59⟩ := hbind h3; clear h3
    refine h_gI hx hb hown hV g58 (flRX10_131 hts hK) dX10_heapGoes_9 ?_
    obtain ⟨b62, g63, h64⟩ := hbind h59; clear h59
    obtain ⟨_, _, e65, q65⟩ := rcv_inv g63
    obtain ⟨r60, S61, g66, h67⟩ := hbn2 h64; clear h64
    refine h_callV (n := 1) (As := [.int v57]) (rest := []) (st1 := [.int r60]) (fr := 0) (lo := 0) (mc := 0) (ms := 0) C.1 hK hV q65 rfl rfl wd951 wd948 wd950 wd71 wd83 ⟨by decide, by decide, by decide⟩ ⟨(Nat.le_of_ble_eq_true rfl), (Nat.le_of_ble_eq_true rfl)⟩ rfl hl.1 (hW_ok [] (Nat.le_of_ble_eq_true rfl)) dX10_heapGoes_12 ⟨(Nat.le_of_ble_eq_true rfl), (Nat.le_of_ble_eq_true rfl)⟩ rfl (by rw [e65]; rfl) (mX10_at l D fu S b62 v57 _ g66) (fun H locs hV => ?_)
    refine hr_aload_n hx hb dX10_heapGoes_15 rfl (hr_at hl 0 rfl) ?_
    refine hr_aload_n hx hb dX10_heapGoes_16 rfl (hr_at hl 0 rfl) ?_
    obtain ⟨v68, g69, h70⟩ := hbind h67; clear h67
    refine h_gI hx hb hown hV g69 (flRX10_131 hts hK) dX10_heapGoes_17 ?_
    refine lv_iconst (v := 1) hx hb dX10_heapGoes_20 (by decide) ?_
    refine lv_iadd hx hb dX10_heapGoes_21 ?_
    obtain ⟨b73, g74, h75⟩ := hbind h70; clear h70
    obtain ⟨_, _, e76, q76⟩ := rcv_inv g74
    obtain ⟨r71, S72, g77, h78⟩ := hbn2 h75; clear h75
    refine h_callV (n := 1) (As := [.int (v68 + (1 : Int32))]) (rest := [.int r60]) (st1 := [.int r71, .int r60]) (fr := 0) (lo := 0) (mc := 0) (ms := 0) C.1 hK hV q76 rfl rfl wd951 wd948 wd950 wd71 wd83 ⟨by decide, by decide, by decide⟩ ⟨(Nat.le_of_ble_eq_true rfl), (Nat.le_of_ble_eq_true rfl)⟩ rfl hl.1 (hW_ok [.inl r60] (Nat.le_of_ble_eq_true rfl)) dX10_heapGoes_22 ⟨(Nat.le_of_ble_eq_true rfl), (Nat.le_of_ble_eq_true rfl)⟩ rfl (by rw [e76]; rfl) (mX10_at l D fu S61 b73 (v68 + (1 : Int32)) _ g77) (fun H locs hV => ?_)
    refine lv_icmp_ge (tgt := 38) hx hb dX10_heapGoes_25 (by decide) (fun c79 => ?_) (fun c79 => ?_)
    · rw [if_pos c79] at h78
      exact kX10_heapGoes_38 C fu S72 a0 _ _ _ h78 hV (hl_sub hl [0] rfl)
    · rw [if_neg c79] at h78
      refine hr_aload_n hx hb dX10_heapGoes_28 rfl (hr_at hl 0 rfl) ?_
      refine hr_dup hx hb dX10_heapGoes_29 ?_
      obtain ⟨v80, g81, h82⟩ := hbind h78; clear h78
      refine h_gI hx hb hown hV g81 (flRX10_131 hts hK) dX10_heapGoes_30 ?_
      refine lv_iconst (v := 1) hx hb dX10_heapGoes_33 (by decide) ?_
      refine lv_iadd hx hb dX10_heapGoes_34 ?_
      obtain ⟨S83, g84, h85⟩ := hbind h82; clear h82
      refine h_put hx hb hown hV g84 (fpRX10_131 hts hK) rfl rfl dX10_heapGoes_35 (fun H locs hV => ?_)
      exact kX10_heapGoes_38 C fu S83 a0 _ _ _ h85 hV (hl_sub hl [0] rfl)
def fX10_mergeGoes_110 (fu : Nat) (S : hS) (a0 : Nat) : Option (Int32 × hS) := (gI S 9 27 (some a0)).bind fun v1 => (pV S 9 27 (some a0) (.int (v1 + (1 : Int32)))).bind fun S4 => (rcv S4 9 (some a0)).bind fun b9 => bn2 (fX10_mergeStands fu S4 b9) fun r7 S8 => (zz r7).bind (fun v => some (v, S8))
set_option maxHeartbeats 4000000 in
set_option maxRecDepth 100000 in
theorem kX10_mergeGoes_110 {p : Program} {l : Launch} {e : Env} {s : State} {m : MethodId} {args : Array Value} {below : List Frame} {meth : Method} {c : Code} {D : hD} {S0 : hS} {z : Int32 × hS} (C : hCx p m c cX10_mergeGoes 1 s args RX10 meth (some .boolean) D) (fu : Nat) : ∀ (S : hS) (a0 : Nat) (H : Heap) (locs : List Loc) (ls : Array Slot), fX10_mergeGoes_110 fu S a0 = some z → h_V D (h_A S0) s S H locs → hl_has ls 1 [(0, .inr (some a0))] → W p l e { frames := 3, cells := 0, slots := 0, locals := 56 } s m args below meth c H locs 0 0 (MQ below (h_Q D (h_A S0) (some (.int z.1)) z.2) args s 0 0 (h_A S0)) (F0 m 110 ls []) := by
  obtain ⟨-, hx, hb, hml, hown, hr, hlk, hK, hts⟩ := id C
  intro S a0 _ _ _ h hV hl
  unfold fX10_mergeGoes_110 at h
  refine hr_aload_n hx hb dX10_mergeGoes_110 rfl (hr_at hl 0 rfl) ?_
  refine hr_dup hx hb dX10_mergeGoes_111 ?_
  obtain ⟨v1, g2, h3⟩ := hbind h; clear h
  refine h_gI hx hb hown hV g2 (flRX10_140 hts hK) dX10_mergeGoes_112 ?_
  refine lv_iconst (v := 1) hx hb dX10_mergeGoes_115 (by decide) ?_
  refine lv_iadd hx hb dX10_mergeGoes_116 ?_
  obtain ⟨S4, g5, h6⟩ := hbind h3; clear h3
  refine h_put hx hb hown hV g5 (fpRX10_140 hts hK) rfl rfl dX10_mergeGoes_117 (fun H locs hV => ?_)
  refine hr_aload_n hx hb dX10_mergeGoes_120 rfl (hr_at hl 0 rfl) ?_
  obtain ⟨b9, g10, h11⟩ := hbind h6; clear h6
  obtain ⟨_, _, e12, q12⟩ := rcv_inv g10
  obtain ⟨r7, S8, g13, h14⟩ := hbn2 h11; clear h11
  refine h_callV (n := 0) (As := []) (rest := []) (st1 := [.int r7]) (fr := 2) (lo := 35) (mc := 0) (ms := 0) C.1 hK hV q12 rfl rfl wd895 wd892 wd894 wd62 wd83 ⟨by decide, by decide, by decide⟩ ⟨(Nat.le_of_ble_eq_true rfl), (Nat.le_of_ble_eq_true rfl)⟩ rfl hl.1 (hW_ok [] (Nat.le_of_ble_eq_true rfl)) dX10_mergeGoes_121 ⟨(Nat.le_of_ble_eq_true rfl), (Nat.le_of_ble_eq_true rfl)⟩ rfl (by rw [e12]; rfl) (mX10_mergeStands l D fu S4 b9 _ g13) (fun H locs hV => ?_)
  exact h_zret hx hb hr hlk hV h14 (Nat.le_of_ble_eq_true rfl) (Nat.le_of_ble_eq_true rfl) dX10_mergeGoes_124
def fX10_mergeGoes (fu : Nat) (S : hS) (a0 : Nat) : Option (Int32 × hS) := (gR S 9 3 (some a0)).bind fun v1 => (rcv S 9 (some a0)).bind fun b6 => bn2 (fX10_source fu S b6) fun r4 S5 => (gI S5 9 23 (some a0)).bind fun v12 => (aI S5 10 v1 (r4 + v12)).bind fun v15 => (gR S5 9 3 (some a0)).bind fun v18 => (rcv S5 9 (some a0)).bind fun b23 => bn2 (fX10_source fu S5 b23) fun r21 S22 => (gI S22 9 24 (some a0)).bind fun v29 => (aI S22 10 v18 (r21 + v29)).bind fun v32 => if v32 < v15 then ((gR S22 9 3 (some a0)).bind fun v36 =>
(rcv S22 9 (some a0)).bind fun b41 =>
bn2 (fX10_target fu S22 b41) fun r39 S40 =>
(gI S40 9 27 (some a0)).bind fun v47 =>
(gR S40 9 3 (some a0)).bind fun v50 =>
(rcv S40 9 (some a0)).bind fun b55 =>
bn2 (fX10_source fu S40 b55) fun r53 S54 =>
(gI S54 9 24 (some a0)).bind fun v61 =>
(aI S54 10 v50 (r53 + v61)).bind fun v64 =>
(sV S54 10 v36 (r39 + v47) (.int v64)).bind fun S67 =>
(gI S67 9 24 (some a0)).bind fun v70 =>
(pV S67 9 24 (some a0) (.int (v70 + (1 : Int32)))).bind fun S73 =>
fX10_mergeGoes_110 fu S73 a0) else ((gR S22 9 3 (some a0)).bind fun v76 =>
(rcv S22 9 (some a0)).bind fun b81 =>
bn2 (fX10_target fu S22 b81) fun r79 S80 =>
(gI S80 9 27 (some a0)).bind fun v87 =>
(gR S80 9 3 (some a0)).bind fun v90 =>
(rcv S80 9 (some a0)).bind fun b95 =>
bn2 (fX10_source fu S80 b95) fun r93 S94 =>
(gI S94 9 23 (some a0)).bind fun v101 =>
(aI S94 10 v90 (r93 + v101)).bind fun v104 =>
(sV S94 10 v76 (r79 + v87) (.int v104)).bind fun S107 =>
(gI S107 9 23 (some a0)).bind fun v110 =>
(pV S107 9 23 (some a0) (.int (v110 + (1 : Int32)))).bind fun S113 =>
fX10_mergeGoes_110 fu S113 a0)
set_option maxHeartbeats 4000000 in
set_option maxRecDepth 100000 in
theorem mX10_mergeGoes (l : Launch) (D : hD) (fu : Nat) (S : hS) (a0 : Nat) (z : Int32 × hS) (h : fX10_mergeGoes fu S a0 = some z) : hM l D yX10_mergeGoes cX10_mergeGoes 1 (some .boolean) 3 56 0 0 [va_rf (some a0)] S (some (.int z.1)) z.2 := by
  refine h_body [.inr (some a0)] RX10 (by decide) rfl (Nat.le_of_ble_eq_true rfl) ?_
  intro p e s m args below meth c C hin ls hV hl
  obtain ⟨-, hx, hb, hml, hown, hr, hlk, hK, hts⟩ := id C
  unfold fX10_mergeGoes at h
  refine hr_aload_n hx hb dX10_mergeGoes_0 rfl (hr_at hl 0 rfl) ?_
  obtain ⟨v1, g2, h3⟩ := hbind h; clear h
  refine h_gR hx hb hown hV g2 (flRX10_69 hts hK) dX10_mergeGoes_1 ?_
  refine hr_aload_n hx hb dX10_mergeGoes_4 rfl (hr_at hl 0 rfl) ?_
  obtain ⟨b6, g7, h8⟩ := hbind h3; clear h3
  obtain ⟨_, _, e9, q9⟩ := rcv_inv g7
  obtain ⟨r4, S5, g10, h11⟩ := hbn2 h8; clear h8
  refine h_callV (n := 0) (As := []) (rest := [va_rf v1]) (st1 := [.int r4, va_rf v1]) (fr := 0) (lo := 0) (mc := 0) (ms := 0) C.1 hK hV q9 rfl rfl wd903 wd900 wd902 wd64 wd83 ⟨by decide, by decide, by decide⟩ ⟨(Nat.le_of_ble_eq_true rfl), (Nat.le_of_ble_eq_true rfl)⟩ rfl hl.1 (hW_ok [.inr v1] (Nat.le_of_ble_eq_true rfl)) dX10_mergeGoes_5 ⟨(Nat.le_of_ble_eq_true rfl), (Nat.le_of_ble_eq_true rfl)⟩ rfl (by rw [e9]; rfl) (mX10_source l D fu S b6 _ g10) (fun H locs hV => ?_)
  refine hr_aload_n hx hb dX10_mergeGoes_8 rfl (hr_at hl 0 rfl) ?_
  obtain ⟨v12, g13, h14⟩ := hbind h11; clear h11
  refine h_gI hx hb hown hV g13 (flRX10_128 hts hK) dX10_mergeGoes_9 ?_
  refine lv_iadd hx hb dX10_mergeGoes_12 ?_
  obtain ⟨v15, g16, h17⟩ := hbind h14; clear h14
  refine h_iald hx hb hK hV g16 dX10_mergeGoes_13 ?_
  refine hr_aload_n hx hb dX10_mergeGoes_14 rfl (hr_at hl 0 rfl) ?_
  obtain ⟨v18, g19, h20⟩ := hbind h17; clear h17
  refine h_gR hx hb hown hV g19 (flRX10_69 hts hK) dX10_mergeGoes_15 ?_
  refine hr_aload_n hx hb dX10_mergeGoes_18 rfl (hr_at hl 0 rfl) ?_
  obtain ⟨b23, g24, h25⟩ := hbind h20; clear h20
  obtain ⟨_, _, e26, q26⟩ := rcv_inv g24
  obtain ⟨r21, S22, g27, h28⟩ := hbn2 h25; clear h25
  refine h_callV (n := 0) (As := []) (rest := [va_rf v18, .int v15]) (st1 := [.int r21, va_rf v18, .int v15]) (fr := 0) (lo := 0) (mc := 0) (ms := 0) C.1 hK hV q26 rfl rfl wd903 wd900 wd902 wd64 wd83 ⟨by decide, by decide, by decide⟩ ⟨(Nat.le_of_ble_eq_true rfl), (Nat.le_of_ble_eq_true rfl)⟩ rfl hl.1 (hW_ok [.inr v18, .inl v15] (Nat.le_of_ble_eq_true rfl)) dX10_mergeGoes_19 ⟨(Nat.le_of_ble_eq_true rfl), (Nat.le_of_ble_eq_true rfl)⟩ rfl (by rw [e26]; rfl) (mX10_source l D fu S5 b23 _ g27) (fun H locs hV => ?_)
  refine hr_aload_n hx hb dX10_mergeGoes_22 rfl (hr_at hl 0 rfl) ?_
  obtain ⟨v29, g30, h31⟩ := hbind h28; clear h28
  refine h_gI hx hb hown hV g30 (flRX10_131 hts hK) dX10_mergeGoes_23 ?_
  refine lv_iadd hx hb dX10_mergeGoes_26 ?_
  obtain ⟨v32, g33, h34⟩ := hbind h31; clear h31
  refine h_iald hx hb hK hV g33 dX10_mergeGoes_27 ?_
  refine lv_icmp_gt (tgt := 72) hx hb dX10_mergeGoes_28 (by decide) (fun c35 => ?_) (fun c35 => ?_)
  · rw [if_pos c35] at h34
    refine hr_aload_n hx hb dX10_mergeGoes_72 rfl (hr_at hl 0 rfl) ?_
    obtain ⟨v36, g37, h38⟩ := hbind h34; clear h34
    refine h_gR hx hb hown hV g37 (flRX10_69 hts hK) dX10_mergeGoes_73 ?_
    refine hr_aload_n hx hb dX10_mergeGoes_76 rfl (hr_at hl 0 rfl) ?_
    obtain ⟨b41, g42, h43⟩ := hbind h38; clear h38
    obtain ⟨_, _, e44, q44⟩ := rcv_inv g42
    obtain ⟨r39, S40, g45, h46⟩ := hbn2 h43; clear h43
    refine h_callV (n := 0) (As := []) (rest := [va_rf v36]) (st1 := [.int r39, va_rf v36]) (fr := 0) (lo := 0) (mc := 0) (ms := 0) C.1 hK hV q44 rfl rfl wd899 wd896 wd898 wd63 wd83 ⟨by decide, by decide, by decide⟩ ⟨(Nat.le_of_ble_eq_true rfl), (Nat.le_of_ble_eq_true rfl)⟩ rfl hl.1 (hW_ok [.inr v36] (Nat.le_of_ble_eq_true rfl)) dX10_mergeGoes_77 ⟨(Nat.le_of_ble_eq_true rfl), (Nat.le_of_ble_eq_true rfl)⟩ rfl (by rw [e44]; rfl) (mX10_target l D fu S22 b41 _ g45) (fun H locs hV => ?_)
    refine hr_aload_n hx hb dX10_mergeGoes_80 rfl (hr_at hl 0 rfl) ?_
    obtain ⟨v47, g48, h49⟩ := hbind h46; clear h46
    refine h_gI hx hb hown hV g48 (flRX10_140 hts hK) dX10_mergeGoes_81 ?_
    refine lv_iadd hx hb dX10_mergeGoes_84 ?_
    refine hr_aload_n hx hb dX10_mergeGoes_85 rfl (hr_at hl 0 rfl) ?_
    obtain ⟨v50, g51, h52⟩ := hbind h49; clear h49
    refine h_gR hx hb hown hV g51 (flRX10_69 hts hK) dX10_mergeGoes_86 ?_
    refine hr_aload_n hx hb dX10_mergeGoes_89 rfl (hr_at hl 0 rfl) ?_
    obtain ⟨b55, g56, h57⟩ := hbind h52; clear h52
    obtain ⟨_, _, e58, q58⟩ := rcv_inv g56
    obtain ⟨r53, S54, g59, h60⟩ := hbn2 h57; clear h57
    refine h_callV (n := 0) (As := []) (rest := [va_rf v50, .int (r39 + v47), va_rf v36]) (st1 := [.int r53, va_rf v50, .int (r39 + v47), va_rf v36]) (fr := 0) (lo := 0) (mc := 0) (ms := 0) C.1 hK hV q58 rfl rfl wd903 wd900 wd902 wd64 wd83 ⟨by decide, by decide, by decide⟩ ⟨(Nat.le_of_ble_eq_true rfl), (Nat.le_of_ble_eq_true rfl)⟩ rfl hl.1 (hW_ok [.inr v50, .inl (r39 + v47), .inr v36] (Nat.le_of_ble_eq_true rfl)) dX10_mergeGoes_90 ⟨(Nat.le_of_ble_eq_true rfl), (Nat.le_of_ble_eq_true rfl)⟩ rfl (by rw [e58]; rfl) (mX10_source l D fu S40 b55 _ g59) (fun H locs hV => ?_)
    refine hr_aload_n hx hb dX10_mergeGoes_93 rfl (hr_at hl 0 rfl) ?_
    obtain ⟨v61, g62, h63⟩ := hbind h60; clear h60
    refine h_gI hx hb hown hV g62 (flRX10_131 hts hK) dX10_mergeGoes_94 ?_
    refine lv_iadd hx hb dX10_mergeGoes_97 ?_
    obtain ⟨v64, g65, h66⟩ := hbind h63; clear h63
    refine h_iald hx hb hK hV g65 dX10_mergeGoes_98 ?_
    obtain ⟨S67, g68, h69⟩ := hbind h66; clear h66
    refine h_iast hx hb hK hV g68 dX10_mergeGoes_99 (fun H locs hV => ?_)
    refine hr_aload_n hx hb dX10_mergeGoes_100 rfl (hr_at hl 0 rfl) ?_
    refine hr_dup hx hb dX10_mergeGoes_101 ?_
    obtain ⟨v70, g71, h72⟩ := hbind h69; clear h69
    refine h_gI hx hb hown hV g71 (flRX10_131 hts hK) dX10_mergeGoes_102 ?_
    refine lv_iconst (v := 1) hx hb dX10_mergeGoes_105 (by decide) ?_
    refine lv_iadd hx hb dX10_mergeGoes_106 ?_
    obtain ⟨S73, g74, h75⟩ := hbind h72; clear h72
    refine h_put hx hb hown hV g74 (fpRX10_131 hts hK) rfl rfl dX10_mergeGoes_107 (fun H locs hV => ?_)
    exact kX10_mergeGoes_110 C fu S73 a0 _ _ _ h75 hV (hl_sub hl [0] rfl)
  · rw [if_neg c35] at h34
    refine hr_aload_n hx hb dX10_mergeGoes_31 rfl (hr_at hl 0 rfl) ?_
    obtain ⟨v76, g77, h78⟩ := hbind h34; clear h34
    refine h_gR hx hb hown hV g77 (flRX10_69 hts hK) dX10_mergeGoes_32 ?_
    refine hr_aload_n hx hb dX10_mergeGoes_35 rfl (hr_at hl 0 rfl) ?_
    obtain ⟨b81, g82, h83⟩ := hbind h78; clear h78
    obtain ⟨_, _, e84, q84⟩ := rcv_inv g82
    obtain ⟨r79, S80, g85, h86⟩ := hbn2 h83; clear h83
    refine h_callV (n := 0) (As := []) (rest := [va_rf v76]) (st1 := [.int r79, va_rf v76]) (fr := 0) (lo := 0) (mc := 0) (ms := 0) C.1 hK hV q84 rfl rfl wd899 wd896 wd898 wd63 wd83 ⟨by decide, by decide, by decide⟩ ⟨(Nat.le_of_ble_eq_true rfl), (Nat.le_of_ble_eq_true rfl)⟩ rfl hl.1 (hW_ok [.inr v76] (Nat.le_of_ble_eq_true rfl)) dX10_mergeGoes_36 ⟨(Nat.le_of_ble_eq_true rfl), (Nat.le_of_ble_eq_true rfl)⟩ rfl (by rw [e84]; rfl) (mX10_target l D fu S22 b81 _ g85) (fun H locs hV => ?_)
    refine hr_aload_n hx hb dX10_mergeGoes_39 rfl (hr_at hl 0 rfl) ?_
    obtain ⟨v87, g88, h89⟩ := hbind h86; clear h86
    refine h_gI hx hb hown hV g88 (flRX10_140 hts hK) dX10_mergeGoes_40 ?_
    refine lv_iadd hx hb dX10_mergeGoes_43 ?_
    refine hr_aload_n hx hb dX10_mergeGoes_44 rfl (hr_at hl 0 rfl) ?_
    obtain ⟨v90, g91, h92⟩ := hbind h89; clear h89
    refine h_gR hx hb hown hV g91 (flRX10_69 hts hK) dX10_mergeGoes_45 ?_
    refine hr_aload_n hx hb dX10_mergeGoes_48 rfl (hr_at hl 0 rfl) ?_
    obtain ⟨b95, g96, h97⟩ := hbind h92; clear h92
    obtain ⟨_, _, e98, q98⟩ := rcv_inv g96
    obtain ⟨r93, S94, g99, h100⟩ := hbn2 h97; clear h97
    refine h_callV (n := 0) (As := []) (rest := [va_rf v90, .int (r79 + v87), va_rf v76]) (st1 := [.int r93, va_rf v90, .int (r79 + v87), va_rf v76]) (fr := 0) (lo := 0) (mc := 0) (ms := 0) C.1 hK hV q98 rfl rfl wd903 wd900 wd902 wd64 wd83 ⟨by decide, by decide, by decide⟩ ⟨(Nat.le_of_ble_eq_true rfl), (Nat.le_of_ble_eq_true rfl)⟩ rfl hl.1 (hW_ok [.inr v90, .inl (r79 + v87), .inr v76] (Nat.le_of_ble_eq_true rfl)) dX10_mergeGoes_49 ⟨(Nat.le_of_ble_eq_true rfl), (Nat.le_of_ble_eq_true rfl)⟩ rfl (by rw [e98]; rfl) (mX10_source l D fu S80 b95 _ g99) (fun H locs hV => ?_)
    refine hr_aload_n hx hb dX10_mergeGoes_52 rfl (hr_at hl 0 rfl) ?_
    obtain ⟨v101, g102, h103⟩ := hbind h100; clear h100
    refine h_gI hx hb hown hV g102 (flRX10_128 hts hK) dX10_mergeGoes_53 ?_
    refine lv_iadd hx hb dX10_mergeGoes_56 ?_
    obtain ⟨v104, g105, h106⟩ := hbind h103; clear h103
    refine h_iald hx hb hK hV g105 dX10_mergeGoes_57 ?_
    obtain ⟨S107, g108, h109⟩ := hbind h106; clear h106
    refine h_iast hx hb hK hV g108 dX10_mergeGoes_58 (fun H locs hV => ?_)
    refine hr_aload_n hx hb dX10_mergeGoes_59 rfl (hr_at hl 0 rfl) ?_
    refine hr_dup hx hb dX10_mergeGoes_60 ?_
    obtain ⟨v110, g111, h112⟩ := hbind h109; clear h109
    refine h_gI hx hb hown hV g111 (flRX10_128 hts hK) dX10_mergeGoes_61 ?_
    refine lv_iconst (v := 1) hx hb dX10_mergeGoes_64 (by decide) ?_
    refine lv_iadd hx hb dX10_mergeGoes_65 ?_
    obtain ⟨S113, g114, h115⟩ := hbind h112; clear h112
    refine h_put hx hb hown hV g114 (fpRX10_128 hts hK) rfl rfl dX10_mergeGoes_66 (fun H locs hV => ?_)
    refine lv_goto (tgt := 110) hx hb dX10_mergeGoes_69 (by decide) ?_
    exact kX10_mergeGoes_110 C fu S113 a0 _ _ _ h115 hV (hl_sub hl [0] rfl)
def fX10_rangeGoes_236 (fu : Nat) (S : hS) (a0 : Nat) (x4 : Int32) (t0 : Int32) : Option (Int32 × hS) := if t0 ≤ x4 then ((gI S 9 30 (some a0)).bind fun v2 =>
if v2 = 0 then ((zz (0 : Int32)).bind (fun v => some (v, S))) else ((gI S 9 30 (some a0)).bind fun v6 =>
(pV S 9 30 (some a0) (.int (v6 - (1 : Int32)))).bind fun S9 =>
(gR S9 9 3 (some a0)).bind fun v12 =>
(gR S9 9 10 (some a0)).bind fun v15 =>
(gI S9 9 20 (some a0)).bind fun v18 =>
(aI S9 10 v15 v18).bind fun v21 =>
(gI S9 9 30 (some a0)).bind fun v24 =>
(aI S9 10 v12 (v21 + ((2 : Int32) * v24))).bind fun v27 =>
(gR S9 9 3 (some a0)).bind fun v30 =>
(gR S9 9 10 (some a0)).bind fun v33 =>
(gI S9 9 20 (some a0)).bind fun v36 =>
(aI S9 10 v33 v36).bind fun v39 =>
(gI S9 9 30 (some a0)).bind fun v42 =>
(aI S9 10 v30 ((v39 + ((2 : Int32) * v42)) + (1 : Int32))).bind fun v45 =>
(rcv S9 9 (some a0)).bind fun b50 =>
bn2 (fX10_range fu S9 b50 v27 v45) fun r48 S49 =>
(zz r48).bind (fun v => some (v, S49)))) else ((rcv S 9 (some a0)).bind fun b58 =>
bn2 (fX10_range fu S b58 x4 t0) fun r56 S57 =>
(zz r56).bind (fun v => some (v, S57)))
set_option maxHeartbeats 4000000 in
set_option maxRecDepth 100000 in
theorem kX10_rangeGoes_236 {p : Program} {l : Launch} {e : Env} {s : State} {m : MethodId} {args : Array Value} {below : List Frame} {meth : Method} {c : Code} {D : hD} {S0 : hS} {z : Int32 × hS} (C : hCx p m c cX10_rangeGoes 6 s args RX10 meth (some .boolean) D) (fu : Nat) : ∀ (S : hS) (a0 : Nat) (x4 : Int32) (t0 : Int32) (H : Heap) (locs : List Loc) (ls : Array Slot), fX10_rangeGoes_236 fu S a0 x4 t0 = some z → h_V D (h_A S0) s S H locs → hl_has ls 6 [(0, .inr (some a0)), (4, .inl x4)] → W p l e { frames := 2, cells := 0, slots := 0, locals := 45 } s m args below meth c H locs 0 0 (MQ below (h_Q D (h_A S0) (some (.int z.1)) z.2) args s 0 0 (h_A S0)) (F0 m 236 ls [.int t0]) := by
  obtain ⟨-, hx, hb, hml, hown, hr, hlk, hK, hts⟩ := id C
  intro S a0 x4 t0 _ _ _ h hV hl
  unfold fX10_rangeGoes_236 at h
  refine h_istore (tl' := [(5, .inl t0), (0, .inr (some a0)), (4, .inl x4)]) hx hb dX10_rangeGoes_236 hl (by decide) rfl (fun ls hl => ?_)
  refine lv_iload hx hb dX10_rangeGoes_238 (hi_at hl 0 rfl) ?_
  refine lv_iload hx hb dX10_rangeGoes_240 (hi_at hl 2 rfl) ?_
  refine lv_icmp_le (tgt := 254) hx hb dX10_rangeGoes_242 (by decide) (fun c1 => ?_) (fun c1 => ?_)
  · rw [if_pos c1] at h
    refine hr_aload_n hx hb dX10_rangeGoes_254 rfl (hr_at hl 1 rfl) ?_
    obtain ⟨v2, g3, h4⟩ := hbind h; clear h
    refine h_gI hx hb hown hV g3 (flRX10_149 hts hK) dX10_rangeGoes_255 ?_
    refine lv_if_ne (tgt := 263) hx hb dX10_rangeGoes_258 (by decide) (fun c5 => ?_) (fun c5 => ?_)
    · rw [if_neg c5] at h4
      refine hr_aload_n hx hb dX10_rangeGoes_263 rfl (hr_at hl 1 rfl) ?_
      refine hr_dup hx hb dX10_rangeGoes_264 ?_
      obtain ⟨v6, g7, h8⟩ := hbind h4; clear h4
      refine h_gI hx hb hown hV g7 (flRX10_149 hts hK) dX10_rangeGoes_265 ?_
      refine lv_iconst (v := 1) hx hb dX10_rangeGoes_268 (by decide) ?_
      refine lv_isub hx hb dX10_rangeGoes_269 ?_
      obtain ⟨S9, g10, h11⟩ := hbind h8; clear h8
      refine h_put hx hb hown hV g10 (fpRX10_149 hts hK) rfl rfl dX10_rangeGoes_270 (fun H locs hV => ?_)
      refine hr_aload_n hx hb dX10_rangeGoes_273 rfl (hr_at hl 1 rfl) ?_
      refine hr_aload_n hx hb dX10_rangeGoes_274 rfl (hr_at hl 1 rfl) ?_
      obtain ⟨v12, g13, h14⟩ := hbind h11; clear h11
      refine h_gR hx hb hown hV g13 (flRX10_69 hts hK) dX10_rangeGoes_275 ?_
      refine hr_aload_n hx hb dX10_rangeGoes_278 rfl (hr_at hl 1 rfl) ?_
      obtain ⟨v15, g16, h17⟩ := hbind h14; clear h14
      refine h_gR hx hb hown hV g16 (flRX10_28 hts hK) dX10_rangeGoes_279 ?_
      refine hr_aload_n hx hb dX10_rangeGoes_282 rfl (hr_at hl 1 rfl) ?_
      obtain ⟨v18, g19, h20⟩ := hbind h17; clear h17
      refine h_gI hx hb hown hV g19 (flRX10_119 hts hK) dX10_rangeGoes_283 ?_
      obtain ⟨v21, g22, h23⟩ := hbind h20; clear h20
      refine h_iald hx hb hK hV g22 dX10_rangeGoes_286 ?_
      refine lv_iconst (v := 2) hx hb dX10_rangeGoes_287 (by decide) ?_
      refine hr_aload_n hx hb dX10_rangeGoes_288 rfl (hr_at hl 1 rfl) ?_
      obtain ⟨v24, g25, h26⟩ := hbind h23; clear h23
      refine h_gI hx hb hown hV g25 (flRX10_149 hts hK) dX10_rangeGoes_289 ?_
      refine lv_imul hx hb dX10_rangeGoes_292 ?_
      refine lv_iadd hx hb dX10_rangeGoes_293 ?_
      obtain ⟨v27, g28, h29⟩ := hbind h26; clear h26
      refine h_iald hx hb hK hV g28 dX10_rangeGoes_294 ?_
      refine hr_aload_n hx hb dX10_rangeGoes_295 rfl (hr_at hl 1 rfl) ?_
      obtain ⟨v30, g31, h32⟩ := hbind h29; clear h29
      refine h_gR hx hb hown hV g31 (flRX10_69 hts hK) dX10_rangeGoes_296 ?_
      refine hr_aload_n hx hb dX10_rangeGoes_299 rfl (hr_at hl 1 rfl) ?_
      obtain ⟨v33, g34, h35⟩ := hbind h32; clear h32
      refine h_gR hx hb hown hV g34 (flRX10_28 hts hK) dX10_rangeGoes_300 ?_
      refine hr_aload_n hx hb dX10_rangeGoes_303 rfl (hr_at hl 1 rfl) ?_
      obtain ⟨v36, g37, h38⟩ := hbind h35; clear h35
      refine h_gI hx hb hown hV g37 (flRX10_119 hts hK) dX10_rangeGoes_304 ?_
      obtain ⟨v39, g40, h41⟩ := hbind h38; clear h38
      refine h_iald hx hb hK hV g40 dX10_rangeGoes_307 ?_
      refine lv_iconst (v := 2) hx hb dX10_rangeGoes_308 (by decide) ?_
      refine hr_aload_n hx hb dX10_rangeGoes_309 rfl (hr_at hl 1 rfl) ?_
      obtain ⟨v42, g43, h44⟩ := hbind h41; clear h41
      refine h_gI hx hb hown hV g43 (flRX10_149 hts hK) dX10_rangeGoes_310 ?_
      refine lv_imul hx hb dX10_rangeGoes_313 ?_
      refine lv_iadd hx hb dX10_rangeGoes_314 ?_
      refine lv_iconst (v := 1) hx hb dX10_rangeGoes_315 (by decide) ?_
      refine lv_iadd hx hb dX10_rangeGoes_316 ?_
      obtain ⟨v45, g46, h47⟩ := hbind h44; clear h44
      refine h_iald hx hb hK hV g46 dX10_rangeGoes_317 ?_
      obtain ⟨b50, g51, h52⟩ := hbind h47; clear h47
      obtain ⟨_, _, e53, q53⟩ := rcv_inv g51
      obtain ⟨r48, S49, g54, h55⟩ := hbn2 h52; clear h52
      refine h_callV (n := 2) (As := [.int v27, .int v45]) (rest := []) (st1 := [.int r48]) (fr := 1) (lo := 23) (mc := 0) (ms := 0) C.1 hK hV q53 rfl rfl wd911 wd908 wd910 wd66 wd83 ⟨by decide, by decide, by decide⟩ ⟨(Nat.le_of_ble_eq_true rfl), (Nat.le_of_ble_eq_true rfl)⟩ rfl hl.1 (hW_ok [] (Nat.le_of_ble_eq_true rfl)) dX10_rangeGoes_318 ⟨(Nat.le_of_ble_eq_true rfl), (Nat.le_of_ble_eq_true rfl)⟩ rfl (by rw [e53]; rfl) (mX10_range l D fu S9 b50 v27 v45 _ g54) (fun H locs hV => ?_)
      exact h_zret hx hb hr hlk hV h55 (Nat.le_of_ble_eq_true rfl) (Nat.le_of_ble_eq_true rfl) dX10_rangeGoes_321
    · rw [if_pos c5] at h4
      refine lv_iconst (v := 0) hx hb dX10_rangeGoes_261 (by decide) ?_
      exact h_zret hx hb hr hlk hV h4 (Nat.le_of_ble_eq_true rfl) (Nat.le_of_ble_eq_true rfl) dX10_rangeGoes_262
  · rw [if_neg c1] at h
    refine hr_aload_n hx hb dX10_rangeGoes_245 rfl (hr_at hl 1 rfl) ?_
    refine lv_iload hx hb dX10_rangeGoes_246 (hi_at hl 2 rfl) ?_
    refine lv_iload hx hb dX10_rangeGoes_248 (hi_at hl 0 rfl) ?_
    obtain ⟨b58, g59, h60⟩ := hbind h; clear h
    obtain ⟨_, _, e61, q61⟩ := rcv_inv g59
    obtain ⟨r56, S57, g62, h63⟩ := hbn2 h60; clear h60
    refine h_callV (n := 2) (As := [.int x4, .int t0]) (rest := []) (st1 := [.int r56]) (fr := 1) (lo := 23) (mc := 0) (ms := 0) C.1 hK hV q61 rfl rfl wd911 wd908 wd910 wd66 wd83 ⟨by decide, by decide, by decide⟩ ⟨(Nat.le_of_ble_eq_true rfl), (Nat.le_of_ble_eq_true rfl)⟩ rfl hl.1 (hW_ok [] (Nat.le_of_ble_eq_true rfl)) dX10_rangeGoes_250 ⟨(Nat.le_of_ble_eq_true rfl), (Nat.le_of_ble_eq_true rfl)⟩ rfl (by rw [e61]; rfl) (mX10_range l D fu S b58 x4 t0 _ g62) (fun H locs hV => ?_)
    exact h_zret hx hb hr hlk hV h63 (Nat.le_of_ble_eq_true rfl) (Nat.le_of_ble_eq_true rfl) dX10_rangeGoes_253
def fX10_rangeGoes_217 (fu : Nat) (S : hS) (a0 : Nat) (x1 : Int32) (t0 : Int32) : Option (Int32 × hS) := if x1 = 0 then ((gI S 9 24 (some a0)).bind fun v2 =>
fX10_rangeGoes_236 fu S a0 t0 (v2 - (1 : Int32))) else ((gI S 9 23 (some a0)).bind fun v5 =>
fX10_rangeGoes_236 fu S a0 t0 v5)
set_option maxHeartbeats 4000000 in
set_option maxRecDepth 100000 in
theorem kX10_rangeGoes_217 {p : Program} {l : Launch} {e : Env} {s : State} {m : MethodId} {args : Array Value} {below : List Frame} {meth : Method} {c : Code} {D : hD} {S0 : hS} {z : Int32 × hS} (C : hCx p m c cX10_rangeGoes 6 s args RX10 meth (some .boolean) D) (fu : Nat) : ∀ (S : hS) (a0 : Nat) (x1 : Int32) (t0 : Int32) (H : Heap) (locs : List Loc) (ls : Array Slot), fX10_rangeGoes_217 fu S a0 x1 t0 = some z → h_V D (h_A S0) s S H locs → hl_has ls 6 [(0, .inr (some a0)), (1, .inl x1)] → W p l e { frames := 2, cells := 0, slots := 0, locals := 45 } s m args below meth c H locs 0 0 (MQ below (h_Q D (h_A S0) (some (.int z.1)) z.2) args s 0 0 (h_A S0)) (F0 m 217 ls [.int t0]) := by
  obtain ⟨-, hx, hb, hml, hown, hr, hlk, hK, hts⟩ := id C
  intro S a0 x1 t0 _ _ _ h hV hl
  unfold fX10_rangeGoes_217 at h
  refine h_istore (tl' := [(4, .inl t0), (0, .inr (some a0)), (1, .inl x1)]) hx hb dX10_rangeGoes_217 hl (by decide) rfl (fun ls hl => ?_)
  refine lv_iload_n hx hb dX10_rangeGoes_219 rfl (hi_at hl 2 rfl) ?_
  refine lv_if_eq (tgt := 230) hx hb dX10_rangeGoes_220 (by decide) (fun c1 => ?_) (fun c1 => ?_)
  · rw [if_pos c1] at h
    refine hr_aload_n hx hb dX10_rangeGoes_230 rfl (hr_at hl 1 rfl) ?_
    obtain ⟨v2, g3, h4⟩ := hbind h; clear h
    refine h_gI hx hb hown hV g3 (flRX10_131 hts hK) dX10_rangeGoes_231 ?_
    refine lv_iconst (v := 1) hx hb dX10_rangeGoes_234 (by decide) ?_
    refine lv_isub hx hb dX10_rangeGoes_235 ?_
    exact kX10_rangeGoes_236 C fu S a0 t0 (v2 - (1 : Int32)) _ _ _ h4 hV (hl_sub hl [1, 0] rfl)
  · rw [if_neg c1] at h
    refine hr_aload_n hx hb dX10_rangeGoes_223 rfl (hr_at hl 1 rfl) ?_
    obtain ⟨v5, g6, h7⟩ := hbind h; clear h
    refine h_gI hx hb hown hV g6 (flRX10_128 hts hK) dX10_rangeGoes_224 ?_
    refine lv_goto (tgt := 236) hx hb dX10_rangeGoes_227 (by decide) ?_
    exact kX10_rangeGoes_236 C fu S a0 t0 v5 _ _ _ h7 hV (hl_sub hl [1, 0] rfl)
def fX10_rangeGoes_200 (fu : Nat) (S : hS) (a0 : Nat) (x1 : Int32) : Option (Int32 × hS) := if x1 = 0 then ((gI S 9 22 (some a0)).bind fun v2 =>
fX10_rangeGoes_217 fu S a0 x1 v2) else ((gI S 9 24 (some a0)).bind fun v5 =>
fX10_rangeGoes_217 fu S a0 x1 (v5 + (1 : Int32)))
set_option maxHeartbeats 4000000 in
set_option maxRecDepth 100000 in
theorem kX10_rangeGoes_200 {p : Program} {l : Launch} {e : Env} {s : State} {m : MethodId} {args : Array Value} {below : List Frame} {meth : Method} {c : Code} {D : hD} {S0 : hS} {z : Int32 × hS} (C : hCx p m c cX10_rangeGoes 6 s args RX10 meth (some .boolean) D) (fu : Nat) : ∀ (S : hS) (a0 : Nat) (x1 : Int32) (H : Heap) (locs : List Loc) (ls : Array Slot), fX10_rangeGoes_200 fu S a0 x1 = some z → h_V D (h_A S0) s S H locs → hl_has ls 6 [(0, .inr (some a0)), (1, .inl x1)] → W p l e { frames := 2, cells := 0, slots := 0, locals := 45 } s m args below meth c H locs 0 0 (MQ below (h_Q D (h_A S0) (some (.int z.1)) z.2) args s 0 0 (h_A S0)) (F0 m 200 ls []) := by
  obtain ⟨-, hx, hb, hml, hown, hr, hlk, hK, hts⟩ := id C
  intro S a0 x1 _ _ _ h hV hl
  unfold fX10_rangeGoes_200 at h
  refine lv_iload_n hx hb dX10_rangeGoes_200 rfl (hi_at hl 1 rfl) ?_
  refine lv_if_eq (tgt := 213) hx hb dX10_rangeGoes_201 (by decide) (fun c1 => ?_) (fun c1 => ?_)
  · rw [if_pos c1] at h
    refine hr_aload_n hx hb dX10_rangeGoes_213 rfl (hr_at hl 0 rfl) ?_
    obtain ⟨v2, g3, h4⟩ := hbind h; clear h
    refine h_gI hx hb hown hV g3 (flRX10_125 hts hK) dX10_rangeGoes_214 ?_
    exact kX10_rangeGoes_217 C fu S a0 x1 v2 _ _ _ h4 hV (hl_sub hl [0, 1] rfl)
  · rw [if_neg c1] at h
    refine hr_aload_n hx hb dX10_rangeGoes_204 rfl (hr_at hl 0 rfl) ?_
    obtain ⟨v5, g6, h7⟩ := hbind h; clear h
    refine h_gI hx hb hown hV g6 (flRX10_131 hts hK) dX10_rangeGoes_205 ?_
    refine lv_iconst (v := 1) hx hb dX10_rangeGoes_208 (by decide) ?_
    refine lv_iadd hx hb dX10_rangeGoes_209 ?_
    refine lv_goto (tgt := 217) hx hb dX10_rangeGoes_210 (by decide) ?_
    exact kX10_rangeGoes_217 C fu S a0 x1 (v5 + (1 : Int32)) _ _ _ h7 hV (hl_sub hl [0, 1] rfl)
def fX10_rangeGoes_138 (fu : Nat) (S : hS) (a0 : Nat) (x1 : Int32) (x2 : Int32) (t0 : Int32) : Option (Int32 × hS) := if t0 ≤ x2 then (fX10_rangeGoes_200 fu S a0 x1) else ((gR S 9 3 (some a0)).bind fun v2 =>
(gR S 9 10 (some a0)).bind fun v5 =>
(gI S 9 20 (some a0)).bind fun v8 =>
(aI S 10 v5 v8).bind fun v11 =>
(gI S 9 30 (some a0)).bind fun v14 =>
(sV S 10 v2 (v11 + ((2 : Int32) * v14)) (.int x2)).bind fun S17 =>
(gR S17 9 3 (some a0)).bind fun v20 =>
(gR S17 9 10 (some a0)).bind fun v23 =>
(gI S17 9 20 (some a0)).bind fun v26 =>
(aI S17 10 v23 v26).bind fun v29 =>
(gI S17 9 30 (some a0)).bind fun v32 =>
(sV S17 10 v20 ((v29 + ((2 : Int32) * v32)) + (1 : Int32)) (.int t0)).bind fun S35 =>
(gI S35 9 30 (some a0)).bind fun v38 =>
(pV S35 9 30 (some a0) (.int (v38 + (1 : Int32)))).bind fun S41 =>
fX10_rangeGoes_200 fu S41 a0 x1)
set_option maxHeartbeats 4000000 in
set_option maxRecDepth 100000 in
theorem kX10_rangeGoes_138 {p : Program} {l : Launch} {e : Env} {s : State} {m : MethodId} {args : Array Value} {below : List Frame} {meth : Method} {c : Code} {D : hD} {S0 : hS} {z : Int32 × hS} (C : hCx p m c cX10_rangeGoes 6 s args RX10 meth (some .boolean) D) (fu : Nat) : ∀ (S : hS) (a0 : Nat) (x1 : Int32) (x2 : Int32) (t0 : Int32) (H : Heap) (locs : List Loc) (ls : Array Slot), fX10_rangeGoes_138 fu S a0 x1 x2 t0 = some z → h_V D (h_A S0) s S H locs → hl_has ls 6 [(0, .inr (some a0)), (1, .inl x1), (2, .inl x2)] → W p l e { frames := 2, cells := 0, slots := 0, locals := 45 } s m args below meth c H locs 0 0 (MQ below (h_Q D (h_A S0) (some (.int z.1)) z.2) args s 0 0 (h_A S0)) (F0 m 138 ls [.int t0]) := by
  obtain ⟨-, hx, hb, hml, hown, hr, hlk, hK, hts⟩ := id C
  intro S a0 x1 x2 t0 _ _ _ h hV hl
  unfold fX10_rangeGoes_138 at h
  refine h_istore_n (tl' := [(3, .inl t0), (0, .inr (some a0)), (1, .inl x1), (2, .inl x2)]) hx hb dX10_rangeGoes_138 rfl hl (by decide) rfl (fun ls hl => ?_)
  refine lv_iload_n hx hb dX10_rangeGoes_139 rfl (hi_at hl 0 rfl) ?_
  refine lv_iload_n hx hb dX10_rangeGoes_140 rfl (hi_at hl 3 rfl) ?_
  refine lv_icmp_le (tgt := 200) hx hb dX10_rangeGoes_141 (by decide) (fun c1 => ?_) (fun c1 => ?_)
  · rw [if_pos c1] at h
    exact kX10_rangeGoes_200 C fu S a0 x1 _ _ _ h hV (hl_sub hl [1, 2] rfl)
  · rw [if_neg c1] at h
    refine hr_aload_n hx hb dX10_rangeGoes_144 rfl (hr_at hl 1 rfl) ?_
    obtain ⟨v2, g3, h4⟩ := hbind h; clear h
    refine h_gR hx hb hown hV g3 (flRX10_69 hts hK) dX10_rangeGoes_145 ?_
    refine hr_aload_n hx hb dX10_rangeGoes_148 rfl (hr_at hl 1 rfl) ?_
    obtain ⟨v5, g6, h7⟩ := hbind h4; clear h4
    refine h_gR hx hb hown hV g6 (flRX10_28 hts hK) dX10_rangeGoes_149 ?_
    refine hr_aload_n hx hb dX10_rangeGoes_152 rfl (hr_at hl 1 rfl) ?_
    obtain ⟨v8, g9, h10⟩ := hbind h7; clear h7
    refine h_gI hx hb hown hV g9 (flRX10_119 hts hK) dX10_rangeGoes_153 ?_
    obtain ⟨v11, g12, h13⟩ := hbind h10; clear h10
    refine h_iald hx hb hK hV g12 dX10_rangeGoes_156 ?_
    refine lv_iconst (v := 2) hx hb dX10_rangeGoes_157 (by decide) ?_
    refine hr_aload_n hx hb dX10_rangeGoes_158 rfl (hr_at hl 1 rfl) ?_
    obtain ⟨v14, g15, h16⟩ := hbind h13; clear h13
    refine h_gI hx hb hown hV g15 (flRX10_149 hts hK) dX10_rangeGoes_159 ?_
    refine lv_imul hx hb dX10_rangeGoes_162 ?_
    refine lv_iadd hx hb dX10_rangeGoes_163 ?_
    refine lv_iload_n hx hb dX10_rangeGoes_164 rfl (hi_at hl 3 rfl) ?_
    obtain ⟨S17, g18, h19⟩ := hbind h16; clear h16
    refine h_iast hx hb hK hV g18 dX10_rangeGoes_165 (fun H locs hV => ?_)
    refine hr_aload_n hx hb dX10_rangeGoes_166 rfl (hr_at hl 1 rfl) ?_
    obtain ⟨v20, g21, h22⟩ := hbind h19; clear h19
    refine h_gR hx hb hown hV g21 (flRX10_69 hts hK) dX10_rangeGoes_167 ?_
    refine hr_aload_n hx hb dX10_rangeGoes_170 rfl (hr_at hl 1 rfl) ?_
    obtain ⟨v23, g24, h25⟩ := hbind h22; clear h22
    refine h_gR hx hb hown hV g24 (flRX10_28 hts hK) dX10_rangeGoes_171 ?_
    refine hr_aload_n hx hb dX10_rangeGoes_174 rfl (hr_at hl 1 rfl) ?_
    obtain ⟨v26, g27, h28⟩ := hbind h25; clear h25
    refine h_gI hx hb hown hV g27 (flRX10_119 hts hK) dX10_rangeGoes_175 ?_
    obtain ⟨v29, g30, h31⟩ := hbind h28; clear h28
    refine h_iald hx hb hK hV g30 dX10_rangeGoes_178 ?_
    refine lv_iconst (v := 2) hx hb dX10_rangeGoes_179 (by decide) ?_
    refine hr_aload_n hx hb dX10_rangeGoes_180 rfl (hr_at hl 1 rfl) ?_
    obtain ⟨v32, g33, h34⟩ := hbind h31; clear h31
    refine h_gI hx hb hown hV g33 (flRX10_149 hts hK) dX10_rangeGoes_181 ?_
    refine lv_imul hx hb dX10_rangeGoes_184 ?_
    refine lv_iadd hx hb dX10_rangeGoes_185 ?_
    refine lv_iconst (v := 1) hx hb dX10_rangeGoes_186 (by decide) ?_
    refine lv_iadd hx hb dX10_rangeGoes_187 ?_
    refine lv_iload_n hx hb dX10_rangeGoes_188 rfl (hi_at hl 0 rfl) ?_
    obtain ⟨S35, g36, h37⟩ := hbind h34; clear h34
    refine h_iast hx hb hK hV g36 dX10_rangeGoes_189 (fun H locs hV => ?_)
    refine hr_aload_n hx hb dX10_rangeGoes_190 rfl (hr_at hl 1 rfl) ?_
    refine hr_dup hx hb dX10_rangeGoes_191 ?_
    obtain ⟨v38, g39, h40⟩ := hbind h37; clear h37
    refine h_gI hx hb hown hV g39 (flRX10_149 hts hK) dX10_rangeGoes_192 ?_
    refine lv_iconst (v := 1) hx hb dX10_rangeGoes_195 (by decide) ?_
    refine lv_iadd hx hb dX10_rangeGoes_196 ?_
    obtain ⟨S41, g42, h43⟩ := hbind h40; clear h40
    refine h_put hx hb hown hV g42 (fpRX10_149 hts hK) rfl rfl dX10_rangeGoes_197 (fun H locs hV => ?_)
    exact kX10_rangeGoes_200 C fu S41 a0 x1 _ _ _ h43 hV (hl_sub hl [1, 2] rfl)
def fX10_rangeGoes_120 (fu : Nat) (S : hS) (a0 : Nat) (x1 : Int32) (t0 : Int32) : Option (Int32 × hS) := if x1 = 0 then ((gI S 9 23 (some a0)).bind fun v2 =>
fX10_rangeGoes_138 fu S a0 x1 t0 v2) else ((gI S 9 24 (some a0)).bind fun v5 =>
fX10_rangeGoes_138 fu S a0 x1 t0 (v5 - (1 : Int32)))
set_option maxHeartbeats 4000000 in
set_option maxRecDepth 100000 in
theorem kX10_rangeGoes_120 {p : Program} {l : Launch} {e : Env} {s : State} {m : MethodId} {args : Array Value} {below : List Frame} {meth : Method} {c : Code} {D : hD} {S0 : hS} {z : Int32 × hS} (C : hCx p m c cX10_rangeGoes 6 s args RX10 meth (some .boolean) D) (fu : Nat) : ∀ (S : hS) (a0 : Nat) (x1 : Int32) (t0 : Int32) (H : Heap) (locs : List Loc) (ls : Array Slot), fX10_rangeGoes_120 fu S a0 x1 t0 = some z → h_V D (h_A S0) s S H locs → hl_has ls 6 [(0, .inr (some a0)), (1, .inl x1)] → W p l e { frames := 2, cells := 0, slots := 0, locals := 45 } s m args below meth c H locs 0 0 (MQ below (h_Q D (h_A S0) (some (.int z.1)) z.2) args s 0 0 (h_A S0)) (F0 m 120 ls [.int t0]) := by
  obtain ⟨-, hx, hb, hml, hown, hr, hlk, hK, hts⟩ := id C
  intro S a0 x1 t0 _ _ _ h hV hl
  unfold fX10_rangeGoes_120 at h
  refine h_istore_n (tl' := [(2, .inl t0), (0, .inr (some a0)), (1, .inl x1)]) hx hb dX10_rangeGoes_120 rfl hl (by decide) rfl (fun ls hl => ?_)
  refine lv_iload_n hx hb dX10_rangeGoes_121 rfl (hi_at hl 2 rfl) ?_
  refine lv_if_eq (tgt := 134) hx hb dX10_rangeGoes_122 (by decide) (fun c1 => ?_) (fun c1 => ?_)
  · rw [if_pos c1] at h
    refine hr_aload_n hx hb dX10_rangeGoes_134 rfl (hr_at hl 1 rfl) ?_
    obtain ⟨v2, g3, h4⟩ := hbind h; clear h
    refine h_gI hx hb hown hV g3 (flRX10_128 hts hK) dX10_rangeGoes_135 ?_
    exact kX10_rangeGoes_138 C fu S a0 x1 t0 v2 _ _ _ h4 hV (hl_sub hl [1, 2, 0] rfl)
  · rw [if_neg c1] at h
    refine hr_aload_n hx hb dX10_rangeGoes_125 rfl (hr_at hl 1 rfl) ?_
    obtain ⟨v5, g6, h7⟩ := hbind h; clear h
    refine h_gI hx hb hown hV g6 (flRX10_131 hts hK) dX10_rangeGoes_126 ?_
    refine lv_iconst (v := 1) hx hb dX10_rangeGoes_129 (by decide) ?_
    refine lv_isub hx hb dX10_rangeGoes_130 ?_
    refine lv_goto (tgt := 138) hx hb dX10_rangeGoes_131 (by decide) ?_
    exact kX10_rangeGoes_138 C fu S a0 x1 t0 (v5 - (1 : Int32)) _ _ _ h7 hV (hl_sub hl [1, 2, 0] rfl)
def fX10_rangeGoes_102 (fu : Nat) (S : hS) (a0 : Nat) (t0 : Int32) : Option (Int32 × hS) := if t0 = 0 then ((gI S 9 24 (some a0)).bind fun v2 =>
fX10_rangeGoes_120 fu S a0 t0 (v2 + (1 : Int32))) else ((gI S 9 22 (some a0)).bind fun v5 =>
fX10_rangeGoes_120 fu S a0 t0 v5)
set_option maxHeartbeats 4000000 in
set_option maxRecDepth 100000 in
theorem kX10_rangeGoes_102 {p : Program} {l : Launch} {e : Env} {s : State} {m : MethodId} {args : Array Value} {below : List Frame} {meth : Method} {c : Code} {D : hD} {S0 : hS} {z : Int32 × hS} (C : hCx p m c cX10_rangeGoes 6 s args RX10 meth (some .boolean) D) (fu : Nat) : ∀ (S : hS) (a0 : Nat) (t0 : Int32) (H : Heap) (locs : List Loc) (ls : Array Slot), fX10_rangeGoes_102 fu S a0 t0 = some z → h_V D (h_A S0) s S H locs → hl_has ls 6 [(0, .inr (some a0))] → W p l e { frames := 2, cells := 0, slots := 0, locals := 45 } s m args below meth c H locs 0 0 (MQ below (h_Q D (h_A S0) (some (.int z.1)) z.2) args s 0 0 (h_A S0)) (F0 m 102 ls [.int t0]) := by
  obtain ⟨-, hx, hb, hml, hown, hr, hlk, hK, hts⟩ := id C
  intro S a0 t0 _ _ _ h hV hl
  unfold fX10_rangeGoes_102 at h
  refine h_istore_n (tl' := [(1, .inl t0), (0, .inr (some a0))]) hx hb dX10_rangeGoes_102 rfl hl (by decide) rfl (fun ls hl => ?_)
  refine lv_iload_n hx hb dX10_rangeGoes_103 rfl (hi_at hl 0 rfl) ?_
  refine lv_if_eq (tgt := 114) hx hb dX10_rangeGoes_104 (by decide) (fun c1 => ?_) (fun c1 => ?_)
  · rw [if_pos c1] at h
    refine hr_aload_n hx hb dX10_rangeGoes_114 rfl (hr_at hl 1 rfl) ?_
    obtain ⟨v2, g3, h4⟩ := hbind h; clear h
    refine h_gI hx hb hown hV g3 (flRX10_131 hts hK) dX10_rangeGoes_115 ?_
    refine lv_iconst (v := 1) hx hb dX10_rangeGoes_118 (by decide) ?_
    refine lv_iadd hx hb dX10_rangeGoes_119 ?_
    exact kX10_rangeGoes_120 C fu S a0 t0 (v2 + (1 : Int32)) _ _ _ h4 hV (hl_sub hl [1, 0] rfl)
  · rw [if_neg c1] at h
    refine hr_aload_n hx hb dX10_rangeGoes_107 rfl (hr_at hl 1 rfl) ?_
    obtain ⟨v5, g6, h7⟩ := hbind h; clear h
    refine h_gI hx hb hown hV g6 (flRX10_125 hts hK) dX10_rangeGoes_108 ?_
    refine lv_goto (tgt := 120) hx hb dX10_rangeGoes_111 (by decide) ?_
    exact kX10_rangeGoes_120 C fu S a0 t0 v5 _ _ _ h7 hV (hl_sub hl [1, 0] rfl)
def fX10_rangeGoes_41 (fu : Nat) (S : hS) (a0 : Nat) : Option (Int32 × hS) := (gI S 9 25 (some a0)).bind fun v1 => (pV S 9 25 (some a0) (.int (v1 + (1 : Int32)))).bind fun S4 => (gI S4 9 25 (some a0)).bind fun v7 => (gI S4 9 23 (some a0)).bind fun v10 => if v10 ≤ v7 then ((gI S4 9 24 (some a0)).bind fun v14 =>
(gI S4 9 23 (some a0)).bind fun v17 =>
(rcv S4 9 (some a0)).bind fun b22 =>
bn2 (fX10_change fu S4 b22 v14 v17) fun _ S21 =>
(gI S21 9 24 (some a0)).bind fun v28 =>
(gI S21 9 22 (some a0)).bind fun v31 =>
(gI S21 9 23 (some a0)).bind fun v34 =>
(gI S21 9 24 (some a0)).bind fun v37 =>
if (v28 - v31) ≤ (v34 - v37) then (fX10_rangeGoes_102 fu S21 a0 (0 : Int32)) else (fX10_rangeGoes_102 fu S21 a0 (1 : Int32))) else ((zz (1 : Int32)).bind (fun v => some (v, S4)))
set_option maxHeartbeats 4000000 in
set_option maxRecDepth 100000 in
theorem kX10_rangeGoes_41 {p : Program} {l : Launch} {e : Env} {s : State} {m : MethodId} {args : Array Value} {below : List Frame} {meth : Method} {c : Code} {D : hD} {S0 : hS} {z : Int32 × hS} (C : hCx p m c cX10_rangeGoes 6 s args RX10 meth (some .boolean) D) (fu : Nat) : ∀ (S : hS) (a0 : Nat) (H : Heap) (locs : List Loc) (ls : Array Slot), fX10_rangeGoes_41 fu S a0 = some z → h_V D (h_A S0) s S H locs → hl_has ls 6 [(0, .inr (some a0))] → W p l e { frames := 2, cells := 0, slots := 0, locals := 45 } s m args below meth c H locs 0 0 (MQ below (h_Q D (h_A S0) (some (.int z.1)) z.2) args s 0 0 (h_A S0)) (F0 m 41 ls []) := by
  obtain ⟨-, hx, hb, hml, hown, hr, hlk, hK, hts⟩ := id C
  intro S a0 _ _ _ h hV hl
  unfold fX10_rangeGoes_41 at h
  refine hr_aload_n hx hb dX10_rangeGoes_41 rfl (hr_at hl 0 rfl) ?_
  refine hr_dup hx hb dX10_rangeGoes_42 ?_
  obtain ⟨v1, g2, h3⟩ := hbind h; clear h
  refine h_gI hx hb hown hV g2 (flRX10_134 hts hK) dX10_rangeGoes_43 ?_
  refine lv_iconst (v := 1) hx hb dX10_rangeGoes_46 (by decide) ?_
  refine lv_iadd hx hb dX10_rangeGoes_47 ?_
  obtain ⟨S4, g5, h6⟩ := hbind h3; clear h3
  refine h_put hx hb hown hV g5 (fpRX10_134 hts hK) rfl rfl dX10_rangeGoes_48 (fun H locs hV => ?_)
  refine hr_aload_n hx hb dX10_rangeGoes_51 rfl (hr_at hl 0 rfl) ?_
  obtain ⟨v7, g8, h9⟩ := hbind h6; clear h6
  refine h_gI hx hb hown hV g8 (flRX10_134 hts hK) dX10_rangeGoes_52 ?_
  refine hr_aload_n hx hb dX10_rangeGoes_55 rfl (hr_at hl 0 rfl) ?_
  obtain ⟨v10, g11, h12⟩ := hbind h9; clear h9
  refine h_gI hx hb hown hV g11 (flRX10_128 hts hK) dX10_rangeGoes_56 ?_
  refine lv_icmp_ge (tgt := 64) hx hb dX10_rangeGoes_59 (by decide) (fun c13 => ?_) (fun c13 => ?_)
  · rw [if_pos c13] at h12
    refine hr_aload_n hx hb dX10_rangeGoes_64 rfl (hr_at hl 0 rfl) ?_
    refine hr_aload_n hx hb dX10_rangeGoes_65 rfl (hr_at hl 0 rfl) ?_
    obtain ⟨v14, g15, h16⟩ := hbind h12; clear h12
    refine h_gI hx hb hown hV g15 (flRX10_131 hts hK) dX10_rangeGoes_66 ?_
    refine hr_aload_n hx hb dX10_rangeGoes_69 rfl (hr_at hl 0 rfl) ?_
    obtain ⟨v17, g18, h19⟩ := hbind h16; clear h16
    refine h_gI hx hb hown hV g18 (flRX10_128 hts hK) dX10_rangeGoes_70 ?_
    obtain ⟨b22, g23, h24⟩ := hbind h19; clear h19
    obtain ⟨_, _, e25, q25⟩ := rcv_inv g23
    obtain ⟨r20, S21, g26, h27⟩ := hbn2 h24; clear h24
    refine h_callV (n := 2) (As := [.int v14, .int v17]) (rest := []) (st1 := []) (fr := 0) (lo := 0) (mc := 0) (ms := 0) C.1 hK hV q25 rfl rfl wd879 wd876 wd878 wd58 wd83 ⟨by decide, by decide, by decide⟩ ⟨(Nat.le_of_ble_eq_true rfl), (Nat.le_of_ble_eq_true rfl)⟩ rfl hl.1 (hW_ok [] (Nat.le_of_ble_eq_true rfl)) dX10_rangeGoes_73 ⟨(Nat.le_of_ble_eq_true rfl), (Nat.le_of_ble_eq_true rfl)⟩ rfl (by rw [e25]; rfl) (mX10_change l D fu S4 b22 v14 v17 _ g26) (fun H locs hV => ?_)
    refine hr_aload_n hx hb dX10_rangeGoes_76 rfl (hr_at hl 0 rfl) ?_
    obtain ⟨v28, g29, h30⟩ := hbind h27; clear h27
    refine h_gI hx hb hown hV g29 (flRX10_131 hts hK) dX10_rangeGoes_77 ?_
    refine hr_aload_n hx hb dX10_rangeGoes_80 rfl (hr_at hl 0 rfl) ?_
    obtain ⟨v31, g32, h33⟩ := hbind h30; clear h30
    refine h_gI hx hb hown hV g32 (flRX10_125 hts hK) dX10_rangeGoes_81 ?_
    refine lv_isub hx hb dX10_rangeGoes_84 ?_
    refine hr_aload_n hx hb dX10_rangeGoes_85 rfl (hr_at hl 0 rfl) ?_
    obtain ⟨v34, g35, h36⟩ := hbind h33; clear h33
    refine h_gI hx hb hown hV g35 (flRX10_128 hts hK) dX10_rangeGoes_86 ?_
    refine hr_aload_n hx hb dX10_rangeGoes_89 rfl (hr_at hl 0 rfl) ?_
    obtain ⟨v37, g38, h39⟩ := hbind h36; clear h36
    refine h_gI hx hb hown hV g38 (flRX10_131 hts hK) dX10_rangeGoes_90 ?_
    refine lv_isub hx hb dX10_rangeGoes_93 ?_
    refine lv_icmp_le (tgt := 101) hx hb dX10_rangeGoes_94 (by decide) (fun c40 => ?_) (fun c40 => ?_)
    · rw [if_pos c40] at h39
      refine lv_iconst (v := 0) hx hb dX10_rangeGoes_101 (by decide) ?_
      exact kX10_rangeGoes_102 C fu S21 a0 (0 : Int32) _ _ _ h39 hV (hl_sub hl [0] rfl)
    · rw [if_neg c40] at h39
      refine lv_iconst (v := 1) hx hb dX10_rangeGoes_97 (by decide) ?_
      refine lv_goto (tgt := 102) hx hb dX10_rangeGoes_98 (by decide) ?_
      exact kX10_rangeGoes_102 C fu S21 a0 (1 : Int32) _ _ _ h39 hV (hl_sub hl [0] rfl)
  · rw [if_neg c13] at h12
    refine lv_iconst (v := 1) hx hb dX10_rangeGoes_62 (by decide) ?_
    exact h_zret hx hb hr hlk hV h12 (Nat.le_of_ble_eq_true rfl) (Nat.le_of_ble_eq_true rfl) dX10_rangeGoes_63
def fX10_rangeGoes (fu : Nat) (S : hS) (a0 : Nat) : Option (Int32 × hS) := (gI S 9 25 (some a0)).bind fun v1 => (rcv S 9 (some a0)).bind fun b6 => bn2 (fX10_at fu S b6 v1) fun r4 S5 => (gI S5 9 23 (some a0)).bind fun v12 => (rcv S5 9 (some a0)).bind fun b17 => bn2 (fX10_at fu S5 b17 v12) fun r15 S16 => if r15 ≤ r4 then (fX10_rangeGoes_41 fu S16 a0) else ((gI S16 9 25 (some a0)).bind fun v24 =>
(gI S16 9 24 (some a0)).bind fun v27 =>
(rcv S16 9 (some a0)).bind fun b32 =>
bn2 (fX10_change fu S16 b32 v24 v27) fun _ S31 =>
(gI S31 9 24 (some a0)).bind fun v38 =>
(pV S31 9 24 (some a0) (.int (v38 + (1 : Int32)))).bind fun S41 =>
fX10_rangeGoes_41 fu S41 a0)
set_option maxHeartbeats 4000000 in
set_option maxRecDepth 100000 in
theorem mX10_rangeGoes (l : Launch) (D : hD) (fu : Nat) (S : hS) (a0 : Nat) (z : Int32 × hS) (h : fX10_rangeGoes fu S a0 = some z) : hM l D yX10_rangeGoes cX10_rangeGoes 6 (some .boolean) 2 45 0 0 [va_rf (some a0)] S (some (.int z.1)) z.2 := by
  refine h_body [.inr (some a0)] RX10 (by decide) rfl (Nat.le_of_ble_eq_true rfl) ?_
  intro p e s m args below meth c C hin ls hV hl
  obtain ⟨-, hx, hb, hml, hown, hr, hlk, hK, hts⟩ := id C
  unfold fX10_rangeGoes at h
  refine hr_aload_n hx hb dX10_rangeGoes_0 rfl (hr_at hl 0 rfl) ?_
  refine hr_aload_n hx hb dX10_rangeGoes_1 rfl (hr_at hl 0 rfl) ?_
  obtain ⟨v1, g2, h3⟩ := hbind h; clear h
  refine h_gI hx hb hown hV g2 (flRX10_134 hts hK) dX10_rangeGoes_2 ?_
  obtain ⟨b6, g7, h8⟩ := hbind h3; clear h3
  obtain ⟨_, _, e9, q9⟩ := rcv_inv g7
  obtain ⟨r4, S5, g10, h11⟩ := hbn2 h8; clear h8
  refine h_callV (n := 1) (As := [.int v1]) (rest := []) (st1 := [.int r4]) (fr := 0) (lo := 0) (mc := 0) (ms := 0) C.1 hK hV q9 rfl rfl wd951 wd948 wd950 wd71 wd83 ⟨by decide, by decide, by decide⟩ ⟨(Nat.le_of_ble_eq_true rfl), (Nat.le_of_ble_eq_true rfl)⟩ rfl hl.1 (hW_ok [] (Nat.le_of_ble_eq_true rfl)) dX10_rangeGoes_5 ⟨(Nat.le_of_ble_eq_true rfl), (Nat.le_of_ble_eq_true rfl)⟩ rfl (by rw [e9]; rfl) (mX10_at l D fu S b6 v1 _ g10) (fun H locs hV => ?_)
  refine hr_aload_n hx hb dX10_rangeGoes_8 rfl (hr_at hl 0 rfl) ?_
  refine hr_aload_n hx hb dX10_rangeGoes_9 rfl (hr_at hl 0 rfl) ?_
  obtain ⟨v12, g13, h14⟩ := hbind h11; clear h11
  refine h_gI hx hb hown hV g13 (flRX10_128 hts hK) dX10_rangeGoes_10 ?_
  obtain ⟨b17, g18, h19⟩ := hbind h14; clear h14
  obtain ⟨_, _, e20, q20⟩ := rcv_inv g18
  obtain ⟨r15, S16, g21, h22⟩ := hbn2 h19; clear h19
  refine h_callV (n := 1) (As := [.int v12]) (rest := [.int r4]) (st1 := [.int r15, .int r4]) (fr := 0) (lo := 0) (mc := 0) (ms := 0) C.1 hK hV q20 rfl rfl wd951 wd948 wd950 wd71 wd83 ⟨by decide, by decide, by decide⟩ ⟨(Nat.le_of_ble_eq_true rfl), (Nat.le_of_ble_eq_true rfl)⟩ rfl hl.1 (hW_ok [.inl r4] (Nat.le_of_ble_eq_true rfl)) dX10_rangeGoes_13 ⟨(Nat.le_of_ble_eq_true rfl), (Nat.le_of_ble_eq_true rfl)⟩ rfl (by rw [e20]; rfl) (mX10_at l D fu S5 b17 v12 _ g21) (fun H locs hV => ?_)
  refine lv_icmp_ge (tgt := 41) hx hb dX10_rangeGoes_16 (by decide) (fun c23 => ?_) (fun c23 => ?_)
  · rw [if_pos c23] at h22
    exact kX10_rangeGoes_41 C fu S16 a0 _ _ _ h22 hV (hl_sub hl [0] rfl)
  · rw [if_neg c23] at h22
    refine hr_aload_n hx hb dX10_rangeGoes_19 rfl (hr_at hl 0 rfl) ?_
    refine hr_aload_n hx hb dX10_rangeGoes_20 rfl (hr_at hl 0 rfl) ?_
    obtain ⟨v24, g25, h26⟩ := hbind h22; clear h22
    refine h_gI hx hb hown hV g25 (flRX10_134 hts hK) dX10_rangeGoes_21 ?_
    refine hr_aload_n hx hb dX10_rangeGoes_24 rfl (hr_at hl 0 rfl) ?_
    obtain ⟨v27, g28, h29⟩ := hbind h26; clear h26
    refine h_gI hx hb hown hV g28 (flRX10_131 hts hK) dX10_rangeGoes_25 ?_
    obtain ⟨b32, g33, h34⟩ := hbind h29; clear h29
    obtain ⟨_, _, e35, q35⟩ := rcv_inv g33
    obtain ⟨r30, S31, g36, h37⟩ := hbn2 h34; clear h34
    refine h_callV (n := 2) (As := [.int v24, .int v27]) (rest := []) (st1 := []) (fr := 0) (lo := 0) (mc := 0) (ms := 0) C.1 hK hV q35 rfl rfl wd879 wd876 wd878 wd58 wd83 ⟨by decide, by decide, by decide⟩ ⟨(Nat.le_of_ble_eq_true rfl), (Nat.le_of_ble_eq_true rfl)⟩ rfl hl.1 (hW_ok [] (Nat.le_of_ble_eq_true rfl)) dX10_rangeGoes_28 ⟨(Nat.le_of_ble_eq_true rfl), (Nat.le_of_ble_eq_true rfl)⟩ rfl (by rw [e35]; rfl) (mX10_change l D fu S16 b32 v24 v27 _ g36) (fun H locs hV => ?_)
    refine hr_aload_n hx hb dX10_rangeGoes_31 rfl (hr_at hl 0 rfl) ?_
    refine hr_dup hx hb dX10_rangeGoes_32 ?_
    obtain ⟨v38, g39, h40⟩ := hbind h37; clear h37
    refine h_gI hx hb hown hV g39 (flRX10_131 hts hK) dX10_rangeGoes_33 ?_
    refine lv_iconst (v := 1) hx hb dX10_rangeGoes_36 (by decide) ?_
    refine lv_iadd hx hb dX10_rangeGoes_37 ?_
    obtain ⟨S41, g42, h43⟩ := hbind h40; clear h40
    refine h_put hx hb hown hV g42 (fpRX10_131 hts hK) rfl rfl dX10_rangeGoes_38 (fun H locs hV => ?_)
    exact kX10_rangeGoes_41 C fu S41 a0 _ _ _ h43 hV (hl_sub hl [0] rfl)
