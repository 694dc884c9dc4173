def fX1_init (fu : Nat) (S : hS) (a0 : Nat) : Option (Unit × hS) := (pV S 1 0 (some a0) (.int (-1 : Int32))).bind fun S1 => some ((), S1)
set_option maxHeartbeats 4000000 in
set_option maxRecDepth 100000 in
theorem mX1_init (l : Launch) (D : hD) (fu : Nat) (S : hS) (a0 : Nat) (z : Unit × hS) (h : fX1_init fu S a0 = some z) : hM l D yX1_init cX1_init 1 none 1 12 0 0 [va_rf (some a0)] S none z.2 := by
  refine h_body [.inr (some a0)] RX1 (by decide) rfl (Nat.le_of_ble_eq_true rfl) ?_
  intro p e s m args below meth c C hin ls hV hl
  obtain ⟨-, hx, hb, hml, hown, hr, hlk, hK, hts⟩ := id C
  unfold fX1_init at h
  refine hr_aload_n hx hb dX1_init_0 rfl (hr_at hl 0 rfl) ?_
  refine h_oinit hx hb (hl.1.trans hml.symm) hown hts wd120 wd97 wd98 (Nat.le_of_ble_eq_true rfl) (hW_okL [] (Nat.le_of_ble_eq_true rfl)) dX1_init_1 ?_
  refine hr_aload_n hx hb dX1_init_4 rfl (hr_at hl 0 rfl) ?_
  refine lv_iconst (v := -1) hx hb dX1_init_5 (by decide) ?_
  obtain ⟨S1, g2, h3⟩ := hbind h; clear h
  refine h_put hx hb hown hV g2 (fpRX1_9 hts hK) rfl rfl dX1_init_6 (fun H locs hV => ?_)
  exact h_vret hx hb hr hlk hV h3 (Nat.le_of_ble_eq_true rfl) (Nat.le_of_ble_eq_true rfl) dX1_init_9
def fX0_init (fu : Nat) (S : hS) (a0 : Nat) (x1 : Int32) : Option (Unit × hS) := bn2 (nA S 10 3000 (imx x1 (0 : Int32)) (.int 0)) fun v1 S2 => (pV S2 0 0 (some a0) (va_rf v1)).bind fun S5 => bn2 (fX1_init fu (nO S5 1) S5.2) fun _ S9 => (pV S9 0 1 (some a0) (va_rf (some S5.2))).bind fun S12 => (gR S12 0 1 (some a0)).bind fun v15 => (pV S12 1 0 v15 (.int (0 : Int32))).bind fun S18 => some ((), S18)
set_option maxHeartbeats 4000000 in
set_option maxRecDepth 100000 in
theorem mX0_init (l : Launch) (D : hD) (fu : Nat) (S : hS) (a0 : Nat) (x1 : Int32) (z : Unit × hS) (h : fX0_init fu S a0 x1 = some z) : hM l D yX0_init cX0_init 2 none 2 32 2 3003 [va_rf (some a0), .int x1] S none z.2 := by
  refine h_body [.inr (some a0), .inl x1] RX0 (by decide) rfl (Nat.le_of_ble_eq_true rfl) ?_
  intro p e s m args below meth c C hin ls hV hl
  obtain ⟨-, hx, hb, hml, hown, hr, hlk, hK, hts⟩ := id C
  unfold fX0_init at h
  refine hr_aload_n hx hb dX0_init_0 rfl (hr_at hl 0 rfl) ?_
  refine h_oinit hx hb (hl.1.trans hml.symm) hown hts wd113 wd97 wd98 (Nat.le_of_ble_eq_true rfl) (hW_okL [] (Nat.le_of_ble_eq_true rfl)) dX0_init_1 ?_
  refine hr_aload_n hx hb dX0_init_4 rfl (hr_at hl 0 rfl) ?_
  refine lv_iload_n hx hb dX0_init_5 rfl (hi_at hl 1 rfl) ?_
  refine lv_iconst (v := 0) hx hb dX0_init_6 (by decide) ?_
  refine h_mmax hx hb (hml.trans hl.1.symm) hown hts wd114 wd108 wd80 wd109 (Nat.le_of_ble_eq_true rfl) (hW_okL [.inr (some a0)] (Nat.le_of_ble_eq_true rfl)) (Nat.le_of_ble_eq_true rfl) (Nat.le_of_ble_eq_true rfl) dX0_init_7 ?_
  obtain ⟨v1, S2, g3, h4⟩ := hbn2 h; clear h
  refine h_newa (atype := .int) (q := (D.2.1, .int)) hx hb hK (hts _ wd141) rfl (by decide) rfl (fun h => h) hV g3 (by decide) (Nat.le_of_ble_eq_true rfl) (Nat.le_of_ble_eq_true rfl) dX0_init_10 (fun H hV => ?_)
  obtain ⟨S5, g6, h7⟩ := hbind h4; clear h4
  refine h_put hx hb hown hV g6 (fpRX0_15 hts hK hown hin) (h_narA _) (h_fitA _) dX0_init_12 (fun H locs hV => ?_)
  refine hr_aload_n hx hb dX0_init_15 rfl (hr_at hl 0 rfl) ?_
  refine h_new (ci := 1) (ty := tyX1) hx hb hts hK uwX1 tyX1_ok hown (hts _ wd115) (hts _ wd116) (hts _ wd81) rfl rfl hV (Nat.le_of_ble_eq_true rfl) (Nat.le_of_ble_eq_true rfl) dX0_init_16 (fun H hV => ?_)
  refine hr_dup hx hb dX0_init_19 ?_
  obtain ⟨r8, S9, g10, h11⟩ := hbn2 h7; clear h7
  refine h_callIN (b := S5.2) (n := 0) (As := []) (rest := [va_rf (some S5.2), va_rf (some a0)]) (st1 := [va_rf (some S5.2), va_rf (some a0)]) (fr := 1) (lo := 12) (mc := 0) (ms := 0) C.1 hK hV wd119 (wo117 hK.2) wd118 wd81 rfl ⟨by decide, by decide, by decide⟩ ⟨(Nat.le_of_ble_eq_true rfl), (Nat.le_of_ble_eq_true rfl)⟩ rfl hl.1 (hW_ok [.inr (some S5.2), .inr (some a0)] (Nat.le_of_ble_eq_true rfl)) dX0_init_20 ⟨(Nat.le_of_ble_eq_true rfl), (Nat.le_of_ble_eq_true rfl)⟩ rfl rfl (mX1_init l D fu (nO S5 1) S5.2 _ g10) (fun H locs hV => ?_)
  obtain ⟨S12, g13, h14⟩ := hbind h11; clear h11
  refine h_put hx hb hown hV g13 (fpRX0_24 hts hK hown hin) (h_narO _) (h_fitO _) dX0_init_23 (fun H locs hV => ?_)
  refine hr_aload_n hx hb dX0_init_26 rfl (hr_at hl 0 rfl) ?_
  obtain ⟨v15, g16, h17⟩ := hbind h14; clear h14
  refine h_gR hx hb hown hV g16 (flRX0_24 hts hK) dX0_init_27 ?_
  refine lv_iconst (v := 0) hx hb dX0_init_30 (by decide) ?_
  obtain ⟨S18, g19, h20⟩ := hbind h17; clear h17
  refine h_put hx hb hown hV g19 (fpRX0_28 hts hK) rfl rfl dX0_init_31 (fun H locs hV => ?_)
  exact h_vret hx hb hr hlk hV h20 (Nat.le_of_ble_eq_true rfl) (Nat.le_of_ble_eq_true rfl) dX0_init_34
def fX0_read (fu : Nat) (S : hS) (a0 : Nat) (x1 : Int32) : Option (Int32 × hS) := if x1 < 0 then (some ((0 : Int32), S)) else ((gR S 0 0 (some a0)).bind fun v2 =>
(aL S 10 v2).bind fun v5 =>
if v5 ≤ x1 then (some ((0 : Int32), S)) else ((gR S 0 0 (some a0)).bind fun v9 =>
(aI S 10 v9 x1).bind fun v12 =>
some (v12, S)))
set_option maxHeartbeats 4000000 in
set_option maxRecDepth 100000 in
theorem mX0_read (l : Launch) (D : hD) (fu : Nat) (S : hS) (a0 : Nat) (x1 : Int32) (z : Int32 × hS) (h : fX0_read fu S a0 x1 = some z) : hM l D yX0_read cX0_read 2 (some .int) 0 0 0 0 [va_rf (some a0), .int x1] S (some (.int z.1)) z.2 := by
  refine h_body [.inr (some a0), .inl x1] RX0 (by decide) rfl (Nat.le_of_ble_eq_true rfl) ?_
  intro p e s m args below meth c C hin ls hV hl
  obtain ⟨-, hx, hb, hml, hown, hr, hlk, hK, hts⟩ := id C
  unfold fX0_read at h
  refine lv_iload_n hx hb dX0_read_0 rfl (hi_at hl 1 rfl) ?_
  refine lv_if_lt (tgt := 22) hx hb dX0_read_1 (by decide) (fun c1 => ?_) (fun c1 => ?_)
  · rw [if_pos c1] at h
    refine lv_iconst (v := 0) hx hb dX0_read_22 (by decide) ?_
    exact h_iret hx hb hr hlk hV h (Nat.le_of_ble_eq_true rfl) (Nat.le_of_ble_eq_true rfl) dX0_read_23
  · rw [if_neg c1] at h
    refine lv_iload_n hx hb dX0_read_4 rfl (hi_at hl 1 rfl) ?_
    refine hr_aload_n hx hb dX0_read_5 rfl (hr_at hl 0 rfl) ?_
    obtain ⟨v2, g3, h4⟩ := hbind h; clear h
    refine h_gR hx hb hown hV g3 (flRX0_15 hts hK) dX0_read_6 ?_
    obtain ⟨v5, g6, h7⟩ := hbind h4; clear h4
    refine h_alen hx hb hK hV (by decide) g6 dX0_read_9 ?_
    refine lv_icmp_ge (tgt := 22) hx hb dX0_read_10 (by decide) (fun c8 => ?_) (fun c8 => ?_)
    · rw [if_pos c8] at h7
      refine lv_iconst (v := 0) hx hb dX0_read_22 (by decide) ?_
      exact h_iret hx hb hr hlk hV h7 (Nat.le_of_ble_eq_true rfl) (Nat.le_of_ble_eq_true rfl) dX0_read_23
    · rw [if_neg c8] at h7
      refine hr_aload_n hx hb dX0_read_13 rfl (hr_at hl 0 rfl) ?_
      obtain ⟨v9, g10, h11⟩ := hbind h7; clear h7
      refine h_gR hx hb hown hV g10 (flRX0_15 hts hK) dX0_read_14 ?_
      refine lv_iload_n hx hb dX0_read_17 rfl (hi_at hl 1 rfl) ?_
      obtain ⟨v12, g13, h14⟩ := hbind h11; clear h11
      refine h_iald hx hb hK hV g13 dX0_read_18 ?_
      refine lv_goto (tgt := 23) hx hb dX0_read_19 (by decide) ?_
      exact h_iret hx hb hr hlk hV h14 (Nat.le_of_ble_eq_true rfl) (Nat.le_of_ble_eq_true rfl) dX0_read_23
def fX0_write (fu : Nat) (S : hS) (a0 : Nat) (x1 : Int32) (x2 : Int32) : Option (Unit × hS) := if x1 < 0 then (some ((), S)) else ((gR S 0 0 (some a0)).bind fun v2 =>
(aL S 10 v2).bind fun v5 =>
if v5 ≤ x1 then (some ((), S)) else ((gR S 0 0 (some a0)).bind fun v9 =>
(sV S 10 v9 x1 (.int x2)).bind fun S12 =>
some ((), S12)))
set_option maxHeartbeats 4000000 in
set_option maxRecDepth 100000 in
theorem mX0_write (l : Launch) (D : hD) (fu : Nat) (S : hS) (a0 : Nat) (x1 : Int32) (x2 : Int32) (z : Unit × hS) (h : fX0_write fu S a0 x1 x2 = some z) : hM l D yX0_write cX0_write 3 none 0 0 0 0 [va_rf (some a0), .int x1, .int x2] S none z.2 := by
  refine h_body [.inr (some a0), .inl x1, .inl x2] RX0 (by decide) rfl (Nat.le_of_ble_eq_true rfl) ?_
  intro p e s m args below meth c C hin ls hV hl
  obtain ⟨-, hx, hb, hml, hown, hr, hlk, hK, hts⟩ := id C
  unfold fX0_write at h
  refine lv_iload_n hx hb dX0_write_0 rfl (hi_at hl 1 rfl) ?_
  refine lv_if_lt (tgt := 20) hx hb dX0_write_1 (by decide) (fun c1 => ?_) (fun c1 => ?_)
  · rw [if_pos c1] at h
    exact h_vret hx hb hr hlk hV h (Nat.le_of_ble_eq_true rfl) (Nat.le_of_ble_eq_true rfl) dX0_write_20
  · rw [if_neg c1] at h
    refine lv_iload_n hx hb dX0_write_4 rfl (hi_at hl 1 rfl) ?_
    refine hr_aload_n hx hb dX0_write_5 rfl (hr_at hl 0 rfl) ?_
    obtain ⟨v2, g3, h4⟩ := hbind h; clear h
    refine h_gR hx hb hown hV g3 (flRX0_15 hts hK) dX0_write_6 ?_
    obtain ⟨v5, g6, h7⟩ := hbind h4; clear h4
    refine h_alen hx hb hK hV (by decide) g6 dX0_write_9 ?_
    refine lv_icmp_ge (tgt := 20) hx hb dX0_write_10 (by decide) (fun c8 => ?_) (fun c8 => ?_)
    · rw [if_pos c8] at h7
      exact h_vret hx hb hr hlk hV h7 (Nat.le_of_ble_eq_true rfl) (Nat.le_of_ble_eq_true rfl) dX0_write_20
    · rw [if_neg c8] at h7
      refine hr_aload_n hx hb dX0_write_13 rfl (hr_at hl 0 rfl) ?_
      obtain ⟨v9, g10, h11⟩ := hbind h7; clear h7
      refine h_gR hx hb hown hV g10 (flRX0_15 hts hK) dX0_write_14 ?_
      refine lv_iload_n hx hb dX0_write_17 rfl (hi_at hl 1 rfl) ?_
      refine lv_iload_n hx hb dX0_write_18 rfl (hi_at hl 2 rfl) ?_
      obtain ⟨S12, g13, h14⟩ := hbind h11; clear h11
      refine h_iast hx hb hK hV g13 dX0_write_19 (fun H locs hV => ?_)
      exact h_vret hx hb hr hlk hV h14 (Nat.le_of_ble_eq_true rfl) (Nat.le_of_ble_eq_true rfl) dX0_write_20
def fX0_swap (fu : Nat) (S : hS) (a0 : Nat) (x1 : Int32) (x2 : Int32) : Option (Unit × hS) := if x1 < 0 then (some ((), S)) else ((gR S 0 0 (some a0)).bind fun v2 =>
(aL S 10 v2).bind fun v5 =>
if v5 ≤ x1 then (some ((), S)) else (if x2 < 0 then (some ((), S)) else ((gR S 0 0 (some a0)).bind fun v10 =>
(aL S 10 v10).bind fun v13 =>
if v13 ≤ x2 then (some ((), S)) else ((gR S 0 0 (some a0)).bind fun v17 =>
(aI S 10 v17 x1).bind fun v20 =>
(gR S 0 0 (some a0)).bind fun v23 =>
(gR S 0 0 (some a0)).bind fun v26 =>
(aI S 10 v26 x2).bind fun v29 =>
(sV S 10 v23 x1 (.int v29)).bind fun S32 =>
(gR S32 0 0 (some a0)).bind fun v35 =>
(sV S32 10 v35 x2 (.int v20)).bind fun S38 =>
some ((), S38)))))
set_option maxHeartbeats 4000000 in
set_option maxRecDepth 100000 in
theorem mX0_swap (l : Launch) (D : hD) (fu : Nat) (S : hS) (a0 : Nat) (x1 : Int32) (x2 : Int32) (z : Unit × hS) (h : fX0_swap fu S a0 x1 x2 = some z) : hM l D yX0_swap cX0_swap 4 none 0 0 0 0 [va_rf (some a0), .int x1, .int x2] S none z.2 := by
  refine h_body [.inr (some a0), .inl x1, .inl x2] RX0 (by decide) rfl (Nat.le_of_ble_eq_true rfl) ?_
  intro p e s m args below meth c C hin ls hV hl
  obtain ⟨-, hx, hb, hml, hown, hr, hlk, hK, hts⟩ := id C
  unfold fX0_swap at h
  refine lv_iload_n hx hb dX0_swap_0 rfl (hi_at hl 1 rfl) ?_
  refine lv_if_lt (tgt := 52) hx hb dX0_swap_1 (by decide) (fun c1 => ?_) (fun c1 => ?_)
  · rw [if_pos c1] at h
    exact h_vret hx hb hr hlk hV h (Nat.le_of_ble_eq_true rfl) (Nat.le_of_ble_eq_true rfl) dX0_swap_52
  · rw [if_neg c1] at h
    refine lv_iload_n hx hb dX0_swap_4 rfl (hi_at hl 1 rfl) ?_
    refine hr_aload_n hx hb dX0_swap_5 rfl (hr_at hl 0 rfl) ?_
    obtain ⟨v2, g3, h4⟩ := hbind h; clear h
    refine h_gR hx hb hown hV g3 (flRX0_15 hts hK) dX0_swap_6 ?_
    obtain ⟨v5, g6, h7⟩ := hbind h4; clear h4
    refine h_alen hx hb hK hV (by decide) g6 dX0_swap_9 ?_
    refine lv_icmp_ge (tgt := 52) hx hb dX0_swap_10 (by decide) (fun c8 => ?_) (fun c8 => ?_)
    · rw [if_pos c8] at h7
      exact h_vret hx hb hr hlk hV h7 (Nat.le_of_ble_eq_true rfl) (Nat.le_of_ble_eq_true rfl) dX0_swap_52
    · rw [if_neg c8] at h7
      refine lv_iload_n hx hb dX0_swap_13 rfl (hi_at hl 2 rfl) ?_
      refine lv_if_lt (tgt := 52) hx hb dX0_swap_14 (by decide) (fun c9 => ?_) (fun c9 => ?_)
      · rw [if_pos c9] at h7
        exact h_vret hx hb hr hlk hV h7 (Nat.le_of_ble_eq_true rfl) (Nat.le_of_ble_eq_true rfl) dX0_swap_52
      · rw [if_neg c9] at h7
        refine lv_iload_n hx hb dX0_swap_17 rfl (hi_at hl 2 rfl) ?_
        refine hr_aload_n hx hb dX0_swap_18 rfl (hr_at hl 0 rfl) ?_
        obtain ⟨v10, g11, h12⟩ := hbind h7; clear h7
        refine h_gR hx hb hown hV g11 (flRX0_15 hts hK) dX0_swap_19 ?_
        obtain ⟨v13, g14, h15⟩ := hbind h12; clear h12
        refine h_alen hx hb hK hV (by decide) g14 dX0_swap_22 ?_
        refine lv_icmp_ge (tgt := 52) hx hb dX0_swap_23 (by decide) (fun c16 => ?_) (fun c16 => ?_)
        · rw [if_pos c16] at h15
          exact h_vret hx hb hr hlk hV h15 (Nat.le_of_ble_eq_true rfl) (Nat.le_of_ble_eq_true rfl) dX0_swap_52
        · rw [if_neg c16] at h15
          refine hr_aload_n hx hb dX0_swap_26 rfl (hr_at hl 0 rfl) ?_
          obtain ⟨v17, g18, h19⟩ := hbind h15; clear h15
          refine h_gR hx hb hown hV g18 (flRX0_15 hts hK) dX0_swap_27 ?_
          refine lv_iload_n hx hb dX0_swap_30 rfl (hi_at hl 1 rfl) ?_
          obtain ⟨v20, g21, h22⟩ := hbind h19; clear h19
          refine h_iald hx hb hK hV g21 dX0_swap_31 ?_
          refine h_istore_n (tl' := [(3, .inl v20), (0, .inr (some a0)), (1, .inl x1), (2, .inl x2)]) hx hb dX0_swap_32 rfl hl (by decide) rfl (fun ls hl => ?_)
          refine hr_aload_n hx hb dX0_swap_33 rfl (hr_at hl 1 rfl) ?_
          obtain ⟨v23, g24, h25⟩ := hbind h22; clear h22
          refine h_gR hx hb hown hV g24 (flRX0_15 hts hK) dX0_swap_34 ?_
          refine lv_iload_n hx hb dX0_swap_37 rfl (hi_at hl 2 rfl) ?_
          refine hr_aload_n hx hb dX0_swap_38 rfl (hr_at hl 1 rfl) ?_
          obtain ⟨v26, g27, h28⟩ := hbind h25; clear h25
          refine h_gR hx hb hown hV g27 (flRX0_15 hts hK) dX0_swap_39 ?_
          refine lv_iload_n hx hb dX0_swap_42 rfl (hi_at hl 3 rfl) ?_
          obtain ⟨v29, g30, h31⟩ := hbind h28; clear h28
          refine h_iald hx hb hK hV g30 dX0_swap_43 ?_
          obtain ⟨S32, g33, h34⟩ := hbind h31; clear h31
          refine h_iast hx hb hK hV g33 dX0_swap_44 (fun H locs hV => ?_)
          refine hr_aload_n hx hb dX0_swap_45 rfl (hr_at hl 1 rfl) ?_
          obtain ⟨v35, g36, h37⟩ := hbind h34; clear h34
          refine h_gR hx hb hown hV g36 (flRX0_15 hts hK) dX0_swap_46 ?_
          refine lv_iload_n hx hb dX0_swap_49 rfl (hi_at hl 3 rfl) ?_
          refine lv_iload_n hx hb dX0_swap_50 rfl (hi_at hl 0 rfl) ?_
          obtain ⟨S38, g39, h40⟩ := hbind h37; clear h37
          refine h_iast hx hb hK hV g39 dX0_swap_51 (fun H locs hV => ?_)
          exact h_vret hx hb hr hlk hV h40 (Nat.le_of_ble_eq_true rfl) (Nat.le_of_ble_eq_true rfl) dX0_swap_52
def fX0_clear_2 (fu : Nat) : Nat → hS → Nat → Int32 → Int32 → Int32 → Option (Unit × hS)
  | 0, _, _, _, _, _ => none
  | n + 1, S, a0, x1, x2, x3 => if x2 ≤ x3 then (some ((), S)) else ((rcv S 0 (some a0)).bind fun b4 =>
bn2 (fX0_write fu S b4 (x1 + x3) (0 : Int32)) fun _ S3 =>
fX0_clear_2 fu n S3 a0 x1 x2 (x3 + (1 : Int32)))
set_option maxHeartbeats 4000000 in
set_option maxRecDepth 100000 in
theorem kX0_clear_2 {p : Program} {l : Launch} {e : Env} {s : State} {m : MethodId} {args : Array Value} {below : List Frame} {meth : Method} {c : Code} {D : hD} {S0 : hS} {z : Unit × hS} (C : hCx p m c cX0_clear 4 s args RX0 meth none D) (fu : Nat) : ∀ (n : Nat) (S : hS) (a0 : Nat) (x1 : Int32) (x2 : Int32) (x3 : Int32) (H : Heap) (locs : List Loc) (ls : Array Slot), fX0_clear_2 fu n S a0 x1 x2 x3 = some z → h_V D (h_A S0) s S H locs → hl_has ls 4 [(0, .inr (some a0)), (1, .inl x1), (2, .inl x2), (3, .inl x3)] → W p l e { frames := 1, cells := 0, slots := 0, locals := 22 } s m args below meth c H locs 0 0 (MQ below (h_Q D (h_A S0) none z.2) args s 0 0 (h_A S0)) (F0 m 2 ls []) := by
  obtain ⟨-, hx, hb, hml, hown, hr, hlk, hK, hts⟩ := id C
  intro n
  induction n with
  | zero =>
    intro S a0 x1 x2 x3 _ _ _ h hV hl
    rw [fX0_clear_2] at h
    cases h
  | succ n ih =>
    intro S a0 x1 x2 x3 _ _ _ h hV hl
    rw [fX0_clear_2] at h
    refine lv_iload_n hx hb dX0_clear_2 rfl (hi_at hl 3 rfl) ?_
    refine lv_iload_n hx hb dX0_clear_3 rfl (hi_at hl 2 rfl) ?_
    refine lv_icmp_ge (tgt := 21) hx hb dX0_clear_4 (by decide) (fun c1 => ?_) (fun c1 => ?_)
    · rw [if_pos c1] at h
      exact h_vret hx hb hr hlk hV h (Nat.le_of_ble_eq_true rfl) (Nat.le_of_ble_eq_true rfl) dX0_clear_21
    · rw [if_neg c1] at h
      refine hr_aload_n hx hb dX0_clear_7 rfl (hr_at hl 0 rfl) ?_
      refine lv_iload_n hx hb dX0_clear_8 rfl (hi_at hl 1 rfl) ?_
      refine lv_iload_n hx hb dX0_clear_9 rfl (hi_at hl 3 rfl) ?_
      refine lv_iadd hx hb dX0_clear_10 ?_
      refine lv_iconst (v := 0) hx hb dX0_clear_11 (by decide) ?_
      obtain ⟨b4, g5, h6⟩ := hbind h; clear h
      obtain ⟨_, _, e7, q7⟩ := rcv_inv g5
      obtain ⟨r2, S3, g8, h9⟩ := hbn2 h6; clear h6
      refine h_callV (n := 2) (As := [.int (x1 + x3), .int (0 : Int32)]) (rest := []) (st1 := []) (fr := 0) (lo := 0) (mc := 0) (ms := 0) C.1 hK hV q7 rfl rfl wd285 wd282 wd284 wd8 wd79 ⟨by decide, by decide, by decide⟩ ⟨(Nat.le_of_ble_eq_true rfl), (Nat.le_of_ble_eq_true rfl)⟩ rfl hl.1 (hW_ok [] (Nat.le_of_ble_eq_true rfl)) dX0_clear_12 ⟨(Nat.le_of_ble_eq_true rfl), (Nat.le_of_ble_eq_true rfl)⟩ rfl (by rw [e7]; rfl) (mX0_write l D fu S b4 (x1 + x3) (0 : Int32) _ g8) (fun H locs hV => ?_)
      refine h_iinc (v := (x3 + (1 : Int32))) (tl' := [(3, .inl (x3 + (1 : Int32))), (0, .inr (some a0)), (1, .inl x1), (2, .inl x2)]) hx hb dX0_clear_15 hl (k := 3) rfl rfl (by decide) rfl (fun ls hl => ?_)
      refine lv_goto (tgt := 2) hx hb dX0_clear_18 (by decide) ?_
      exact ih S3 a0 x1 x2 (x3 + (1 : Int32)) _ _ _ h9 hV (hl_sub hl [1, 2, 3, 0] rfl)
def fX0_clear (fu : Nat) (S : hS) (a0 : Nat) (x1 : Int32) (x2 : Int32) : Option (Unit × hS) := fX0_clear_2 fu fu S a0 x1 x2 (0 : Int32)
set_option maxHeartbeats 4000000 in
set_option maxRecDepth 100000 in
theorem mX0_clear (l : Launch) (D : hD) (fu : Nat) (S : hS) (a0 : Nat) (x1 : Int32) (x2 : Int32) (z : Unit × hS) (h : fX0_clear fu S a0 x1 x2 = some z) : hM l D yX0_clear cX0_clear 4 none 1 22 0 0 [va_rf (some a0), .int x1, .int x2] S none z.2 := by
  refine h_body [.inr (some a0), .inl x1, .inl x2] RX0 (by decide) rfl (Nat.le_of_ble_eq_true rfl) ?_
  intro p e s m args below meth c C hin ls hV hl
  obtain ⟨-, hx, hb, hml, hown, hr, hlk, hK, hts⟩ := id C
  unfold fX0_clear at h
  refine lv_iconst (v := 0) hx hb dX0_clear_0 (by decide) ?_
  refine h_istore_n (tl' := [(3, .inl (0 : Int32)), (0, .inr (some a0)), (1, .inl x1), (2, .inl x2)]) hx hb dX0_clear_1 rfl hl (by decide) rfl (fun ls hl => ?_)
  exact kX0_clear_2 C fu fu S a0 x1 x2 (0 : Int32) _ _ _ h hV (hl_sub hl [1, 2, 3, 0] rfl)
def fX0_copy (fu : Nat) (S : hS) (a0 : Nat) (x1 : Int32) (x2 : Int32) (x3 : Int32) : Option (Unit × hS) := (gR S 0 0 (some a0)).bind fun v1 => (aL S 10 v1).bind fun v4 => if x3 ≤ 0 then (some ((), S)) else (if x1 < 0 then (some ((), S)) else (if (v4 - x3) < x1 then (some ((), S)) else (if x2 < 0 then (some ((), S)) else (if (v4 - x3) < x2 then (some ((), S)) else ((gR S 0 0 (some a0)).bind fun v12 =>
(gR S 0 0 (some a0)).bind fun v15 =>
(aC S v12 x1 v15 x2 x3).bind fun S18 =>
some ((), S18))))))
set_option maxHeartbeats 4000000 in
set_option maxRecDepth 100000 in
theorem mX0_copy (l : Launch) (D : hD) (fu : Nat) (S : hS) (a0 : Nat) (x1 : Int32) (x2 : Int32) (x3 : Int32) (z : Unit × hS) (h : fX0_copy fu S a0 x1 x2 x3 = some z) : hM l D yX0_copy cX0_copy 5 none 1 18 0 0 [va_rf (some a0), .int x1, .int x2, .int x3] S none z.2 := by
  refine h_body [.inr (some a0), .inl x1, .inl x2, .inl x3] RX0 (by decide) rfl (Nat.le_of_ble_eq_true rfl) ?_
  intro p e s m args below meth c C hin ls hV hl
  obtain ⟨-, hx, hb, hml, hown, hr, hlk, hK, hts⟩ := id C
  unfold fX0_copy at h
  refine hr_aload_n hx hb dX0_copy_0 rfl (hr_at hl 0 rfl) ?_
  obtain ⟨v1, g2, h3⟩ := hbind h; clear h
  refine h_gR hx hb hown hV g2 (flRX0_15 hts hK) dX0_copy_1 ?_
  obtain ⟨v4, g5, h6⟩ := hbind h3; clear h3
  refine h_alen hx hb hK hV (by decide) g5 dX0_copy_4 ?_
  refine lv_iload_n hx hb dX0_copy_5 rfl (hi_at hl 3 rfl) ?_
  refine lv_isub hx hb dX0_copy_6 ?_
  refine h_istore (tl' := [(4, .inl (v4 - x3)), (0, .inr (some a0)), (1, .inl x1), (2, .inl x2), (3, .inl x3)]) hx hb dX0_copy_7 hl (by decide) rfl (fun ls hl => ?_)
  refine lv_iload_n hx hb dX0_copy_9 rfl (hi_at hl 4 rfl) ?_
  refine lv_if_le (tgt := 47) hx hb dX0_copy_10 (by decide) (fun c7 => ?_) (fun c7 => ?_)
  · rw [if_pos c7] at h6
    exact h_vret hx hb hr hlk hV h6 (Nat.le_of_ble_eq_true rfl) (Nat.le_of_ble_eq_true rfl) dX0_copy_47
  · rw [if_neg c7] at h6
    refine lv_iload_n hx hb dX0_copy_13 rfl (hi_at hl 2 rfl) ?_
    refine lv_if_lt (tgt := 47) hx hb dX0_copy_14 (by decide) (fun c8 => ?_) (fun c8 => ?_)
    · rw [if_pos c8] at h6
      exact h_vret hx hb hr hlk hV h6 (Nat.le_of_ble_eq_true rfl) (Nat.le_of_ble_eq_true rfl) dX0_copy_47
    · rw [if_neg c8] at h6
      refine lv_iload_n hx hb dX0_copy_17 rfl (hi_at hl 2 rfl) ?_
      refine lv_iload hx hb dX0_copy_18 (hi_at hl 0 rfl) ?_
      refine lv_icmp_gt (tgt := 47) hx hb dX0_copy_20 (by decide) (fun c9 => ?_) (fun c9 => ?_)
      · rw [if_pos c9] at h6
        exact h_vret hx hb hr hlk hV h6 (Nat.le_of_ble_eq_true rfl) (Nat.le_of_ble_eq_true rfl) dX0_copy_47
      · rw [if_neg c9] at h6
        refine lv_iload_n hx hb dX0_copy_23 rfl (hi_at hl 3 rfl) ?_
        refine lv_if_lt (tgt := 47) hx hb dX0_copy_24 (by decide) (fun c10 => ?_) (fun c10 => ?_)
        · rw [if_pos c10] at h6
          exact h_vret hx hb hr hlk hV h6 (Nat.le_of_ble_eq_true rfl) (Nat.le_of_ble_eq_true rfl) dX0_copy_47
        · rw [if_neg c10] at h6
          refine lv_iload_n hx hb dX0_copy_27 rfl (hi_at hl 3 rfl) ?_
          refine lv_iload hx hb dX0_copy_28 (hi_at hl 0 rfl) ?_
          refine lv_icmp_gt (tgt := 47) hx hb dX0_copy_30 (by decide) (fun c11 => ?_) (fun c11 => ?_)
          · rw [if_pos c11] at h6
            exact h_vret hx hb hr hlk hV h6 (Nat.le_of_ble_eq_true rfl) (Nat.le_of_ble_eq_true rfl) dX0_copy_47
          · rw [if_neg c11] at h6
            refine hr_aload_n hx hb dX0_copy_33 rfl (hr_at hl 1 rfl) ?_
            obtain ⟨v12, g13, h14⟩ := hbind h6; clear h6
            refine h_gR hx hb hown hV g13 (flRX0_15 hts hK) dX0_copy_34 ?_
            refine lv_iload_n hx hb dX0_copy_37 rfl (hi_at hl 2 rfl) ?_
            refine hr_aload_n hx hb dX0_copy_38 rfl (hr_at hl 1 rfl) ?_
            obtain ⟨v15, g16, h17⟩ := hbind h14; clear h14
            refine h_gR hx hb hown hV g16 (flRX0_15 hts hK) dX0_copy_39 ?_
            refine lv_iload_n hx hb dX0_copy_42 rfl (hi_at hl 3 rfl) ?_
            refine lv_iload_n hx hb dX0_copy_43 rfl (hi_at hl 4 rfl) ?_
            obtain ⟨S18, g19, h20⟩ := hbind h17; clear h17
            refine h_copy hx hb (hml.trans hl.1.symm) hown (hts _ wd315) (hts _ wd317) (hts _ wd316) (hts _ wd85) hK hV g19 (Nat.le_of_ble_eq_true rfl) (hW_okL [] (Nat.le_of_ble_eq_true rfl)) dX0_copy_44 (fun H locs hV => ?_)
            exact h_vret hx hb hr hlk hV h20 (Nat.le_of_ble_eq_true rfl) (Nat.le_of_ble_eq_true rfl) dX0_copy_47
def fX1_end (fu : Nat) (S : hS) (a0 : Nat) : Option (Int32 × hS) := (gI S 1 0 (some a0)).bind fun v1 => (gI S 1 1 (some a0)).bind fun v4 => some ((v1 + v4), S)
set_option maxHeartbeats 4000000 in
set_option maxRecDepth 100000 in
theorem mX1_end (l : Launch) (D : hD) (fu : Nat) (S : hS) (a0 : Nat) (z : Int32 × hS) (h : fX1_end fu S a0 = some z) : hM l D yX1_end cX1_end 1 (some .int) 0 0 0 0 [va_rf (some a0)] S (some (.int z.1)) z.2 := by
  refine h_body [.inr (some a0)] RX1 (by decide) rfl (Nat.le_of_ble_eq_true rfl) ?_
  intro p e s m args below meth c C hin ls hV hl
  obtain ⟨-, hx, hb, hml, hown, hr, hlk, hK, hts⟩ := id C
  unfold fX1_end at h
  refine hr_aload_n hx hb dX1_end_0 rfl (hr_at hl 0 rfl) ?_
  obtain ⟨v1, g2, h3⟩ := hbind h; clear h
  refine h_gI hx hb hown hV g2 (flRX1_9 hts hK) dX1_end_1 ?_
  refine hr_aload_n hx hb dX1_end_4 rfl (hr_at hl 0 rfl) ?_
  obtain ⟨v4, g5, h6⟩ := hbind h3; clear h3
  refine h_gI hx hb hown hV g5 (flRX1_15 hts hK) dX1_end_5 ?_
  refine lv_iadd hx hb dX1_end_8 ?_
  exact h_iret hx hb hr hlk hV h6 (Nat.le_of_ble_eq_true rfl) (Nat.le_of_ble_eq_true rfl) dX1_end_9
def fX0_gapBehind_22 (fu : Nat) (S : hS) (x1 : Option Nat) (t0 : Int32) : Option (Int32 × hS) := (rcv S 1 x1).bind fun b3 => bn2 (fX1_end fu S b3) fun r1 S2 => some ((t0 - r1), S2)
set_option maxHeartbeats 4000000 in
set_option maxRecDepth 100000 in
theorem kX0_gapBehind_22 {p : Program} {l : Launch} {e : Env} {s : State} {m : MethodId} {args : Array Value} {below : List Frame} {meth : Method} {c : Code} {D : hD} {S0 : hS} {z : Int32 × hS} (C : hCx p m c cX0_gapBehind 3 s args RX0 meth (some .int) D) (fu : Nat) : ∀ (S : hS) (x1 : Option Nat) (t0 : Int32) (H : Heap) (locs : List Loc) (ls : Array Slot), fX0_gapBehind_22 fu S x1 t0 = some z → h_V D (h_A S0) s S H locs → hl_has ls 3 [(1, .inr x1)] → W p l e { frames := 1, cells := 0, slots := 0, locals := 20 } s m args below meth c H locs 0 0 (MQ below (h_Q D (h_A S0) (some (.int z.1)) z.2) args s 0 0 (h_A S0)) (F0 m 22 ls [.int t0]) := by
  obtain ⟨-, hx, hb, hml, hown, hr, hlk, hK, hts⟩ := id C
  intro S x1 t0 _ _ _ h hV hl
  unfold fX0_gapBehind_22 at h
  refine h_istore_n (tl' := [(2, .inl t0), (1, .inr x1)]) hx hb dX0_gapBehind_22 rfl hl (by decide) rfl (fun ls hl => ?_)
  refine lv_iload_n hx hb dX0_gapBehind_23 rfl (hi_at hl 0 rfl) ?_
  refine hr_aload_n hx hb dX0_gapBehind_24 rfl (hr_at hl 1 rfl) ?_
  obtain ⟨b3, g4, h5⟩ := hbind h; clear h
  obtain ⟨_, _, e6, q6⟩ := rcv_inv g4
  obtain ⟨r1, S2, g7, h8⟩ := hbn2 h5; clear h5
  refine h_callVN (n := 0) (As := []) (rest := [.int t0]) (st1 := [.int r1, .int t0]) (fr := 0) (lo := 0) (mc := 0) (ms := 0) C.1 hK hV q6 rfl rfl wd266 (wo263 hK.2) wd265 wd4 wd81 ⟨by decide, by decide, by decide⟩ ⟨(Nat.le_of_ble_eq_true rfl), (Nat.le_of_ble_eq_true rfl)⟩ rfl hl.1 (hW_ok [.inl t0] (Nat.le_of_ble_eq_true rfl)) dX0_gapBehind_25 ⟨(Nat.le_of_ble_eq_true rfl), (Nat.le_of_ble_eq_true rfl)⟩ rfl (by rw [e6]; rfl) (mX1_end l D fu S b3 _ g7) (fun H locs hV => ?_)
  refine lv_isub hx hb dX0_gapBehind_28 ?_
  exact h_iret hx hb hr hlk hV h8 (Nat.le_of_ble_eq_true rfl) (Nat.le_of_ble_eq_true rfl) dX0_gapBehind_29
def fX0_gapBehind (fu : Nat) (S : hS) (a0 : Nat) (x1 : Option Nat) : Option (Int32 × hS) := (gR S 1 2 x1).bind fun v1 => if v1 = none then ((gR S 0 0 (some a0)).bind fun v11 =>
(aL S 10 v11).bind fun v14 =>
fX0_gapBehind_22 fu S x1 v14) else ((gR S 1 2 x1).bind fun v5 =>
(gI S 1 0 v5).bind fun v8 =>
fX0_gapBehind_22 fu S x1 v8)
set_option maxHeartbeats 4000000 in
set_option maxRecDepth 100000 in
theorem mX0_gapBehind (l : Launch) (D : hD) (fu : Nat) (S : hS) (a0 : Nat) (x1 : Option Nat) (z : Int32 × hS) (h : fX0_gapBehind fu S a0 x1 = some z) : hM l D yX0_gapBehind cX0_gapBehind 3 (some .int) 1 20 0 0 [va_rf (some a0), va_rf x1] S (some (.int z.1)) z.2 := by
  refine h_body [.inr (some a0), .inr x1] RX0 (by decide) rfl (Nat.le_of_ble_eq_true rfl) ?_
  intro p e s m args below meth c C hin ls hV hl
  obtain ⟨-, hx, hb, hml, hown, hr, hlk, hK, hts⟩ := id C
  unfold fX0_gapBehind at h
  refine hr_aload_n hx hb dX0_gapBehind_0 rfl (hr_at hl 1 rfl) ?_
  obtain ⟨v1, g2, h3⟩ := hbind h; clear h
  refine h_gR hx hb hown hV g2 (flRX0_42 hts hK) dX0_gapBehind_1 ?_
  refine hr_ifnonnull (tgt := 15) hx hb dX0_gapBehind_4 (by decide) (fun c4 => ?_) (fun c4 => ?_)
  · rw [if_neg c4] at h3
    refine hr_aload_n hx hb dX0_gapBehind_15 rfl (hr_at hl 1 rfl) ?_
    obtain ⟨v5, g6, h7⟩ := hbind h3; clear h3
    refine h_gR hx hb hown hV g6 (flRX0_42 hts hK) dX0_gapBehind_16 ?_
    obtain ⟨v8, g9, h10⟩ := hbind h7; clear h7
    refine h_gI hx hb hown hV g9 (flRX0_28 hts hK) dX0_gapBehind_19 ?_
    exact kX0_gapBehind_22 C fu S x1 v8 _ _ _ h10 hV (hl_sub hl [1] rfl)
  · rw [if_pos c4] at h3
    refine hr_aload_n hx hb dX0_gapBehind_7 rfl (hr_at hl 0 rfl) ?_
    obtain ⟨v11, g12, h13⟩ := hbind h3; clear h3
    refine h_gR hx hb hown hV g12 (flRX0_15 hts hK) dX0_gapBehind_8 ?_
    obtain ⟨v14, g15, h16⟩ := hbind h13; clear h13
    refine h_alen hx hb hK hV (by decide) g15 dX0_gapBehind_11 ?_
    refine lv_goto (tgt := 22) hx hb dX0_gapBehind_12 (by decide) ?_
    exact kX0_gapBehind_22 C fu S x1 v14 _ _ _ h16 hV (hl_sub hl [1] rfl)
def fX0_link (fu : Nat) (S : hS) (a0 : Nat) (x1 : Option Nat) (x2 : Option Nat) (x3 : Int32) (x4 : Int32) : Option (Unit × hS) := (pV S 1 0 x2 (.int x3)).bind fun S1 => (pV S1 1 1 x2 (.int x4)).bind fun S4 => (gR S4 1 2 x1).bind fun v7 => (pV S4 1 2 x2 (va_rf v7)).bind fun S10 => (pV S10 1 2 x1 (va_rf x2)).bind fun S13 => some ((), S13)
set_option maxHeartbeats 4000000 in
set_option maxRecDepth 100000 in
theorem mX0_link (l : Launch) (D : hD) (fu : Nat) (S : hS) (a0 : Nat) (x1 : Option Nat) (x2 : Option Nat) (x3 : Int32) (x4 : Int32) (z : Unit × hS) (h : fX0_link fu S a0 x1 x2 x3 x4 = some z) : hM l D yX0_link cX0_link 5 none 0 0 0 0 [va_rf (some a0), va_rf x1, va_rf x2, .int x3, .int x4] S none z.2 := by
  refine h_body [.inr (some a0), .inr x1, .inr x2, .inl x3, .inl x4] RX0 (by decide) rfl (Nat.le_of_ble_eq_true rfl) ?_
  intro p e s m args below meth c C hin ls hV hl
  obtain ⟨-, hx, hb, hml, hown, hr, hlk, hK, hts⟩ := id C
  unfold fX0_link at h
  refine hr_aload_n hx hb dX0_link_0 rfl (hr_at hl 2 rfl) ?_
  refine lv_iload_n hx hb dX0_link_1 rfl (hi_at hl 3 rfl) ?_
  obtain ⟨S1, g2, h3⟩ := hbind h; clear h
  refine h_put hx hb hown hV g2 (fpRX0_28 hts hK) rfl rfl dX0_link_2 (fun H locs hV => ?_)
  refine hr_aload_n hx hb dX0_link_5 rfl (hr_at hl 2 rfl) ?_
  refine lv_iload hx hb dX0_link_6 (hi_at hl 4 rfl) ?_
  obtain ⟨S4, g5, h6⟩ := hbind h3; clear h3
  refine h_put hx hb hown hV g5 (fpRX0_57 hts hK) rfl rfl dX0_link_8 (fun H locs hV => ?_)
  refine hr_aload_n hx hb dX0_link_11 rfl (hr_at hl 2 rfl) ?_
  refine hr_aload_n hx hb dX0_link_12 rfl (hr_at hl 1 rfl) ?_
  obtain ⟨v7, g8, h9⟩ := hbind h6; clear h6
  refine h_gR hx hb hown hV g8 (flRX0_42 hts hK) dX0_link_13 ?_
  obtain ⟨S10, g11, h12⟩ := hbind h9; clear h9
  refine h_put hx hb hown hV g11 (fpRX0_42 hts hK) (h_narO _) (h_fitO _) dX0_link_16 (fun H locs hV => ?_)
  refine hr_aload_n hx hb dX0_link_19 rfl (hr_at hl 1 rfl) ?_
  refine hr_aload_n hx hb dX0_link_20 rfl (hr_at hl 2 rfl) ?_
  obtain ⟨S13, g14, h15⟩ := hbind h12; clear h12
  refine h_put hx hb hown hV g14 (fpRX0_42 hts hK) (h_narO _) (h_fitO _) dX0_link_21 (fun H locs hV => ?_)
  exact h_vret hx hb hr hlk hV h15 (Nat.le_of_ble_eq_true rfl) (Nat.le_of_ble_eq_true rfl) dX0_link_24
def fX0_take_11 (fu : Nat) : Nat → hS → Nat → Option Nat → Int32 → Option Nat → Option (Int32 × hS)
  | 0, _, _, _, _, _ => none
  | n + 1, S, a0, x1, x2, x3 => if x3 = none then ((zz (0 : Int32)).bind (fun v => some (v, S))) else ((rcv S 0 (some a0)).bind fun b4 =>
bn2 (fX0_gapBehind fu S b4 x3) fun r2 S3 =>
if r2 < x2 then ((gR S3 1 2 x3).bind fun v11 =>
fX0_take_11 fu n S3 a0 x1 x2 v11) else ((rcv S3 1 x3).bind fun b16 =>
bn2 (fX1_end fu S3 b16) fun r14 S15 =>
(rcv S15 0 (some a0)).bind fun b24 =>
bn2 (fX0_link fu S15 b24 x3 x1 r14 x2) fun _ S23 =>
(zz (1 : Int32)).bind (fun v => some (v, S23))))
set_option maxHeartbeats 4000000 in
set_option maxRecDepth 100000 in
theorem kX0_take_11 {p : Program} {l : Launch} {e : Env} {s : State} {m : MethodId} {args : Array Value} {below : List Frame} {meth : Method} {c : Code} {D : hD} {S0 : hS} {z : Int32 × hS} (C : hCx p m c cX0_take 4 s args RX0 meth (some .boolean) D) (fu : Nat) : ∀ (n : Nat) (S : hS) (a0 : Nat) (x1 : Option Nat) (x2 : Int32) (x3 : Option Nat) (H : Heap) (locs : List Loc) (ls : Array Slot), fX0_take_11 fu n S a0 x1 x2 x3 = some z → h_V D (h_A S0) s S H locs → hl_has ls 4 [(0, .inr (some a0)), (1, .inr x1), (2, .inl x2), (3, .inr x3)] → W p l e { frames := 2, cells := 0, slots := 0, locals := 42 } s m args below meth c H locs 0 0 (MQ below (h_Q D (h_A S0) (some (.int z.1)) z.2) args s 0 0 (h_A S0)) (F0 m 11 ls []) := by
  obtain ⟨-, hx, hb, hml, hown, hr, hlk, hK, hts⟩ := id C
  intro n
  induction n with
  | zero =>
    intro S a0 x1 x2 x3 _ _ _ h hV hl
    rw [fX0_take_11] at h
    cases h
  | succ n ih =>
    intro S a0 x1 x2 x3 _ _ _ h hV hl
    rw [fX0_take_11] at h
    refine hr_aload_n hx hb dX0_take_11 rfl (hr_at hl 3 rfl) ?_
    refine hr_ifnull (tgt := 45) hx hb dX0_take_12 (by decide) (fun c1 => ?_) (fun c1 => ?_)
    · rw [if_pos c1] at h
      refine lv_iconst (v := 0) hx hb dX0_take_45 (by decide) ?_
      exact h_zret hx hb hr hlk hV h (Nat.le_of_ble_eq_true rfl) (Nat.le_of_ble_eq_true rfl) dX0_take_46
    · rw [if_neg c1] at h
      refine hr_aload_n hx hb dX0_take_15 rfl (hr_at hl 0 rfl) ?_
      refine hr_aload_n hx hb dX0_take_16 rfl (hr_at hl 3 rfl) ?_
      obtain ⟨b4, g5, h6⟩ := hbind h; clear h
      obtain ⟨_, _, e7, q7⟩ := rcv_inv g5
      obtain ⟨r2, S3, g8, h9⟩ := hbn2 h6; clear h6
      refine h_callV (n := 1) (As := [va_rf x3]) (rest := []) (st1 := [.int r2]) (fr := 1) (lo := 20) (mc := 0) (ms := 0) C.1 hK hV q7 rfl rfl wd262 wd259 wd261 wd3 wd79 ⟨by decide, by decide, by decide⟩ ⟨(Nat.le_of_ble_eq_true rfl), (Nat.le_of_ble_eq_true rfl)⟩ rfl hl.1 (hW_ok [] (Nat.le_of_ble_eq_true rfl)) dX0_take_17 ⟨(Nat.le_of_ble_eq_true rfl), (Nat.le_of_ble_eq_true rfl)⟩ rfl (by rw [e7]; rfl) (mX0_gapBehind l D fu S b4 x3 _ g8) (fun H locs hV => ?_)
      refine lv_iload_n hx hb dX0_take_20 rfl (hi_at hl 2 rfl) ?_
      refine lv_icmp_lt (tgt := 37) hx hb dX0_take_21 (by decide) (fun c10 => ?_) (fun c10 => ?_)
      · rw [if_pos c10] at h9
        refine hr_aload_n hx hb dX0_take_37 rfl (hr_at hl 3 rfl) ?_
        obtain ⟨v11, g12, h13⟩ := hbind h9; clear h9
        refine h_gR hx hb hown hV g12 (flRX0_42 hts hK) dX0_take_38 ?_
        refine h_astore_n (tl' := [(3, .inr v11), (0, .inr (some a0)), (1, .inr x1), (2, .inl x2)]) hx hb dX0_take_41 rfl hl (by decide) rfl (fun ls hl => ?_)
        refine lv_goto (tgt := 11) hx hb dX0_take_42 (by decide) ?_
        exact ih S3 a0 x1 x2 v11 _ _ _ h13 hV (hl_sub hl [1, 2, 3, 0] rfl)
      · rw [if_neg c10] at h9
        refine hr_aload_n hx hb dX0_take_24 rfl (hr_at hl 0 rfl) ?_
        refine hr_aload_n hx hb dX0_take_25 rfl (hr_at hl 3 rfl) ?_
        refine hr_aload_n hx hb dX0_take_26 rfl (hr_at hl 1 rfl) ?_
        refine hr_aload_n hx hb dX0_take_27 rfl (hr_at hl 3 rfl) ?_
        obtain ⟨b16, g17, h18⟩ := hbind h9; clear h9
        obtain ⟨_, _, e19, q19⟩ := rcv_inv g17
        obtain ⟨r14, S15, g20, h21⟩ := hbn2 h18; clear h18
        refine h_callVN (n := 0) (As := []) (rest := [va_rf x1, va_rf x3, va_rf (some a0)]) (st1 := [.int r14, va_rf x1, va_rf x3, va_rf (some a0)]) (fr := 0) (lo := 0) (mc := 0) (ms := 0) C.1 hK hV q19 rfl rfl wd266 (wo263 hK.2) wd265 wd4 wd81 ⟨by decide, by decide, by decide⟩ ⟨(Nat.le_of_ble_eq_true rfl), (Nat.le_of_ble_eq_true rfl)⟩ rfl hl.1 (hW_ok [.inr x1, .inr x3, .inr (some a0)] (Nat.le_of_ble_eq_true rfl)) dX0_take_28 ⟨(Nat.le_of_ble_eq_true rfl), (Nat.le_of_ble_eq_true rfl)⟩ rfl (by rw [e19]; rfl) (mX1_end l D fu S3 b16 _ g20) (fun H locs hV => ?_)
        refine lv_iload_n hx hb dX0_take_31 rfl (hi_at hl 2 rfl) ?_
        obtain ⟨b24, g25, h26⟩ := hbind h21; clear h21
        obtain ⟨_, _, e27, q27⟩ := rcv_inv g25
        obtain ⟨r22, S23, g28, h29⟩ := hbn2 h26; clear h26
        refine h_callV (n := 4) (As := [va_rf x3, va_rf x1, .int r14, .int x2]) (rest := []) (st1 := []) (fr := 0) (lo := 0) (mc := 0) (ms := 0) C.1 hK hV q27 rfl rfl wd270 wd267 wd269 wd5 wd79 ⟨by decide, by decide, by decide⟩ ⟨(Nat.le_of_ble_eq_true rfl), (Nat.le_of_ble_eq_true rfl)⟩ rfl hl.1 (hW_ok [] (Nat.le_of_ble_eq_true rfl)) dX0_take_32 ⟨(Nat.le_of_ble_eq_true rfl), (Nat.le_of_ble_eq_true rfl)⟩ rfl (by rw [e27]; rfl) (mX0_link l D fu S15 b24 x3 x1 r14 x2 _ g28) (fun H locs hV => ?_)
        refine lv_iconst (v := 1) hx hb dX0_take_35 (by decide) ?_
        exact h_zret hx hb hr hlk hV h29 (Nat.le_of_ble_eq_true rfl) (Nat.le_of_ble_eq_true rfl) dX0_take_36
def fX0_take (fu : Nat) (S : hS) (a0 : Nat) (x1 : Option Nat) (x2 : Int32) : Option (Int32 × hS) := if 0 < x2 then ((gR S 0 1 (some a0)).bind fun v2 =>
fX0_take_11 fu fu S a0 x1 x2 v2) else ((zz (1 : Int32)).bind (fun v => some (v, S)))
set_option maxHeartbeats 4000000 in
set_option maxRecDepth 100000 in
theorem mX0_take (l : Launch) (D : hD) (fu : Nat) (S : hS) (a0 : Nat) (x1 : Option Nat) (x2 : Int32) (z : Int32 × hS) (h : fX0_take fu S a0 x1 x2 = some z) : hM l D yX0_take cX0_take 4 (some .boolean) 2 42 0 0 [va_rf (some a0), va_rf x1, .int x2] S (some (.int z.1)) z.2 := by
  refine h_body [.inr (some a0), .inr x1, .inl x2] RX0 (by decide) rfl (Nat.le_of_ble_eq_true rfl) ?_
  intro p e s m args below meth c C hin ls hV hl
  obtain ⟨-, hx, hb, hml, hown, hr, hlk, hK, hts⟩ := id C
  unfold fX0_take at h
  refine lv_iload_n hx hb dX0_take_0 rfl (hi_at hl 2 rfl) ?_
  refine lv_if_gt (tgt := 6) hx hb dX0_take_1 (by decide) (fun c1 => ?_) (fun c1 => ?_)
  · rw [if_pos c1] at h
    refine hr_aload_n hx hb dX0_take_6 rfl (hr_at hl 0 rfl) ?_
    obtain ⟨v2, g3, h4⟩ := hbind h; clear h
    refine h_gR hx hb hown hV g3 (flRX0_24 hts hK) dX0_take_7 ?_
    refine h_astore_n (tl' := [(3, .inr v2), (0, .inr (some a0)), (1, .inr x1), (2, .inl x2)]) hx hb dX0_take_10 rfl hl (by decide) rfl (fun ls hl => ?_)
    exact kX0_take_11 C fu fu S a0 x1 x2 v2 _ _ _ h4 hV (hl_sub hl [1, 2, 3, 0] rfl)
  · rw [if_neg c1] at h
    refine lv_iconst (v := 1) hx hb dX0_take_4 (by decide) ?_
    exact h_zret hx hb hr hlk hV h (Nat.le_of_ble_eq_true rfl) (Nat.le_of_ble_eq_true rfl) dX0_take_5
def fX0_putAt_48 (fu : Nat) (S : hS) (a0 : Nat) (x1 : Option Nat) (x2 : Int32) (x3 : Int32) (x4 : Option Nat) : Option (Unit × hS) := (rcv S 0 (some a0)).bind fun b3 => bn2 (fX0_link fu S b3 x4 x1 x2 x3) fun _ S2 => some ((), S2)
set_option maxHeartbeats 4000000 in
set_option maxRecDepth 100000 in
theorem kX0_putAt_48 {p : Program} {l : Launch} {e : Env} {s : State} {m : MethodId} {args : Array Value} {below : List Frame} {meth : Method} {c : Code} {D : hD} {S0 : hS} {z : Unit × hS} (C : hCx p m c cX0_putAt 6 s args RX0 meth none D) (fu : Nat) : ∀ (S : hS) (a0 : Nat) (x1 : Option Nat) (x2 : Int32) (x3 : Int32) (x4 : Option Nat) (H : Heap) (locs : List Loc) (ls : Array Slot), fX0_putAt_48 fu S a0 x1 x2 x3 x4 = some z → h_V D (h_A S0) s S H locs → hl_has ls 6 [(0, .inr (some a0)), (1, .inr x1), (2, .inl x2), (3, .inl x3), (4, .inr x4)] → W p l e { frames := 1, cells := 0, slots := 0, locals := 24 } s m args below meth c H locs 0 0 (MQ below (h_Q D (h_A S0) none z.2) args s 0 0 (h_A S0)) (F0 m 48 ls []) := by
  obtain ⟨-, hx, hb, hml, hown, hr, hlk, hK, hts⟩ := id C
  intro S a0 x1 x2 x3 x4 _ _ _ h hV hl
  unfold fX0_putAt_48 at h
  refine hr_aload_n hx hb dX0_putAt_48 rfl (hr_at hl 0 rfl) ?_
  refine hr_aload hx hb dX0_putAt_49 (hr_at hl 4 rfl) ?_
  refine hr_aload_n hx hb dX0_putAt_51 rfl (hr_at hl 1 rfl) ?_
  refine lv_iload_n hx hb dX0_putAt_52 rfl (hi_at hl 2 rfl) ?_
  refine lv_iload_n hx hb dX0_putAt_53 rfl (hi_at hl 3 rfl) ?_
  obtain ⟨b3, g4, h5⟩ := hbind h; clear h
  obtain ⟨_, _, e6, q6⟩ := rcv_inv g4
  obtain ⟨r1, S2, g7, h8⟩ := hbn2 h5; clear h5
  refine h_callV (n := 4) (As := [va_rf x4, va_rf x1, .int x2, .int x3]) (rest := []) (st1 := []) (fr := 0) (lo := 0) (mc := 0) (ms := 0) C.1 hK hV q6 rfl rfl wd270 wd267 wd269 wd5 wd79 ⟨by decide, by decide, by decide⟩ ⟨(Nat.le_of_ble_eq_true rfl), (Nat.le_of_ble_eq_true rfl)⟩ rfl hl.1 (hW_ok [] (Nat.le_of_ble_eq_true rfl)) dX0_putAt_54 ⟨(Nat.le_of_ble_eq_true rfl), (Nat.le_of_ble_eq_true rfl)⟩ rfl (by rw [e6]; rfl) (mX0_link l D fu S b3 x4 x1 x2 x3 _ g7) (fun H locs hV => ?_)
  exact h_vret hx hb hr hlk hV h8 (Nat.le_of_ble_eq_true rfl) (Nat.le_of_ble_eq_true rfl) dX0_putAt_57
def fX0_putAt_20 (fu : Nat) : Nat → hS → Nat → Option Nat → Int32 → Int32 → Option Nat → Option Nat → Option (Unit × hS)
  | 0, _, _, _, _, _, _, _ => none
  | n + 1, S, a0, x1, x2, x3, x4, x5 => if x5 = none then (fX0_putAt_48 fu S a0 x1 x2 x3 x4) else ((gI S 1 0 x5).bind fun v2 =>
if x2 ≤ v2 then (fX0_putAt_48 fu S a0 x1 x2 x3 x4) else ((gR S 1 2 x5).bind fun v6 =>
fX0_putAt_20 fu n S a0 x1 x2 x3 x5 v6))
set_option maxHeartbeats 4000000 in
set_option maxRecDepth 100000 in
theorem kX0_putAt_20 {p : Program} {l : Launch} {e : Env} {s : State} {m : MethodId} {args : Array Value} {below : List Frame} {meth : Method} {c : Code} {D : hD} {S0 : hS} {z : Unit × hS} (C : hCx p m c cX0_putAt 6 s args RX0 meth none D) (fu : Nat) : ∀ (n : Nat) (S : hS) (a0 : Nat) (x1 : Option Nat) (x2 : Int32) (x3 : Int32) (x4 : Option Nat) (x5 : Option Nat) (H : Heap) (locs : List Loc) (ls : Array Slot), fX0_putAt_20 fu n S a0 x1 x2 x3 x4 x5 = some z → h_V D (h_A S0) s S H locs → hl_has ls 6 [(0, .inr (some a0)), (1, .inr x1), (2, .inl x2), (3, .inl x3), (4, .inr x4), (5, .inr x5)] → W p l e { frames := 1, cells := 0, slots := 0, locals := 24 } s m args below meth c H locs 0 0 (MQ below (h_Q D (h_A S0) none z.2) args s 0 0 (h_A S0)) (F0 m 20 ls []) := by
  obtain ⟨-, hx, hb, hml, hown, hr, hlk, hK, hts⟩ := id C
  intro n
  induction n with
  | zero =>
    intro S a0 x1 x2 x3 x4 x5 _ _ _ h hV hl
    rw [fX0_putAt_20] at h
    cases h
  | succ n ih =>
    intro S a0 x1 x2 x3 x4 x5 _ _ _ h hV hl
    rw [fX0_putAt_20] at h
    refine hr_aload hx hb dX0_putAt_20 (hr_at hl 5 rfl) ?_
    refine hr_ifnull (tgt := 48) hx hb dX0_putAt_22 (by decide) (fun c1 => ?_) (fun c1 => ?_)
    · rw [if_pos c1] at h
      exact kX0_putAt_48 C fu S a0 x1 x2 x3 x4 _ _ _ h hV (hl_sub hl [0, 1, 2, 3, 4] rfl)
    · rw [if_neg c1] at h
      refine hr_aload hx hb dX0_putAt_25 (hr_at hl 5 rfl) ?_
      obtain ⟨v2, g3, h4⟩ := hbind h; clear h
      refine h_gI hx hb hown hV g3 (flRX0_28 hts hK) dX0_putAt_27 ?_
      refine lv_iload_n hx hb dX0_putAt_30 rfl (hi_at hl 2 rfl) ?_
      refine lv_icmp_ge (tgt := 48) hx hb dX0_putAt_31 (by decide) (fun c5 => ?_) (fun c5 => ?_)
      · rw [if_pos c5] at h4
        exact kX0_putAt_48 C fu S a0 x1 x2 x3 x4 _ _ _ h4 hV (hl_sub hl [0, 1, 2, 3, 4] rfl)
      · rw [if_neg c5] at h4
        refine hr_aload hx hb dX0_putAt_34 (hr_at hl 5 rfl) ?_
        refine h_astore (tl' := [(4, .inr x5), (0, .inr (some a0)), (1, .inr x1), (2, .inl x2), (3, .inl x3), (5, .inr x5)]) hx hb dX0_putAt_36 hl (by decide) rfl (fun ls hl => ?_)
        refine hr_aload hx hb dX0_putAt_38 (hr_at hl 5 rfl) ?_
        obtain ⟨v6, g7, h8⟩ := hbind h4; clear h4
        refine h_gR hx hb hown hV g7 (flRX0_42 hts hK) dX0_putAt_40 ?_
        refine h_astore (tl' := [(5, .inr v6), (4, .inr x5), (0, .inr (some a0)), (1, .inr x1), (2, .inl x2), (3, .inl x3)]) hx hb dX0_putAt_43 hl (by decide) rfl (fun ls hl => ?_)
        refine lv_goto (tgt := 20) hx hb dX0_putAt_45 (by decide) ?_
        exact ih S a0 x1 x2 x3 x5 v6 _ _ _ h8 hV (hl_sub hl [2, 3, 4, 5, 1, 0] rfl)
def fX0_putAt (fu : Nat) (S : hS) (a0 : Nat) (x1 : Option Nat) (x2 : Int32) (x3 : Int32) : Option (Unit × hS) := if 0 < x3 then ((gR S 0 1 (some a0)).bind fun v2 =>
(gR S 0 1 (some a0)).bind fun v5 =>
(gR S 1 2 v5).bind fun v8 =>
fX0_putAt_20 fu fu S a0 x1 x2 x3 v2 v8) else (some ((), S))
set_option maxHeartbeats 4000000 in
set_option maxRecDepth 100000 in
theorem mX0_putAt (l : Launch) (D : hD) (fu : Nat) (S : hS) (a0 : Nat) (x1 : Option Nat) (x2 : Int32) (x3 : Int32) (z : Unit × hS) (h : fX0_putAt fu S a0 x1 x2 x3 = some z) : hM l D yX0_putAt cX0_putAt 6 none 1 24 0 0 [va_rf (some a0), va_rf x1, .int x2, .int x3] S none z.2 := by
  refine h_body [.inr (some a0), .inr x1, .inl x2, .inl x3] RX0 (by decide) rfl (Nat.le_of_ble_eq_true rfl) ?_
  intro p e s m args below meth c C hin ls hV hl
  obtain ⟨-, hx, hb, hml, hown, hr, hlk, hK, hts⟩ := id C
  unfold fX0_putAt at h
  refine lv_iload_n hx hb dX0_putAt_0 rfl (hi_at hl 3 rfl) ?_
  refine lv_if_gt (tgt := 5) hx hb dX0_putAt_1 (by decide) (fun c1 => ?_) (fun c1 => ?_)
  · rw [if_pos c1] at h
    refine hr_aload_n hx hb dX0_putAt_5 rfl (hr_at hl 0 rfl) ?_
    obtain ⟨v2, g3, h4⟩ := hbind h; clear h
    refine h_gR hx hb hown hV g3 (flRX0_24 hts hK) dX0_putAt_6 ?_
    refine h_astore (tl' := [(4, .inr v2), (0, .inr (some a0)), (1, .inr x1), (2, .inl x2), (3, .inl x3)]) hx hb dX0_putAt_9 hl (by decide) rfl (fun ls hl => ?_)
    refine hr_aload_n hx hb dX0_putAt_11 rfl (hr_at hl 1 rfl) ?_
    obtain ⟨v5, g6, h7⟩ := hbind h4; clear h4
    refine h_gR hx hb hown hV g6 (flRX0_24 hts hK) dX0_putAt_12 ?_
    obtain ⟨v8, g9, h10⟩ := hbind h7; clear h7
    refine h_gR hx hb hown hV g9 (flRX0_42 hts hK) dX0_putAt_15 ?_
    refine h_astore (tl' := [(5, .inr v8), (4, .inr v2), (0, .inr (some a0)), (1, .inr x1), (2, .inl x2), (3, .inl x3)]) hx hb dX0_putAt_18 hl (by decide) rfl (fun ls hl => ?_)
    exact kX0_putAt_20 C fu fu S a0 x1 x2 x3 v2 v8 _ _ _ h10 hV (hl_sub hl [2, 3, 4, 5, 1, 0] rfl)
  · rw [if_neg c1] at h
    exact h_vret hx hb hr hlk hV h (Nat.le_of_ble_eq_true rfl) (Nat.le_of_ble_eq_true rfl) dX0_putAt_4
def fX0_giveBack_36 (fu : Nat) (S : hS) (x1 : Option Nat) : Option (Unit × hS) := (pV S 1 0 x1 (.int (-1 : Int32))).bind fun S1 => (pV S1 1 1 x1 (.int (0 : Int32))).bind fun S4 => (pV S4 1 2 x1 (va_rf none)).bind fun S7 => some ((), S7)
set_option maxHeartbeats 4000000 in
set_option maxRecDepth 100000 in
theorem kX0_giveBack_36 {p : Program} {l : Launch} {e : Env} {s : State} {m : MethodId} {args : Array Value} {below : List Frame} {meth : Method} {c : Code} {D : hD} {S0 : hS} {z : Unit × hS} (C : hCx p m c cX0_giveBack 3 s args RX0 meth none D) (fu : Nat) : ∀ (S : hS) (x1 : Option Nat) (H : Heap) (locs : List Loc) (ls : Array Slot), fX0_giveBack_36 fu S x1 = some z → h_V D (h_A S0) s S H locs → hl_has ls 3 [(1, .inr x1)] → W p l e { frames := 0, cells := 0, slots := 0, locals := 0 } s m args below meth c H locs 0 0 (MQ below (h_Q D (h_A S0) none z.2) args s 0 0 (h_A S0)) (F0 m 36 ls []) := by
  obtain ⟨-, hx, hb, hml, hown, hr, hlk, hK, hts⟩ := id C
  intro S x1 _ _ _ h hV hl
  unfold fX0_giveBack_36 at h
  refine hr_aload_n hx hb dX0_giveBack_36 rfl (hr_at hl 0 rfl) ?_
  refine lv_iconst (v := -1) hx hb dX0_giveBack_37 (by decide) ?_
  obtain ⟨S1, g2, h3⟩ := hbind h; clear h
  refine h_put hx hb hown hV g2 (fpRX0_28 hts hK) rfl rfl dX0_giveBack_38 (fun H locs hV => ?_)
  refine hr_aload_n hx hb dX0_giveBack_41 rfl (hr_at hl 0 rfl) ?_
  refine lv_iconst (v := 0) hx hb dX0_giveBack_42 (by decide) ?_
  obtain ⟨S4, g5, h6⟩ := hbind h3; clear h3
  refine h_put hx hb hown hV g5 (fpRX0_57 hts hK) rfl rfl dX0_giveBack_43 (fun H locs hV => ?_)
  refine hr_aload_n hx hb dX0_giveBack_46 rfl (hr_at hl 0 rfl) ?_
  refine h_null hx hb dX0_giveBack_47 ?_
  obtain ⟨S7, g8, h9⟩ := hbind h6; clear h6
  refine h_put hx hb hown hV g8 (fpRX0_42 hts hK) (h_narO _) (h_fitO _) dX0_giveBack_48 (fun H locs hV => ?_)
  exact h_vret hx hb hr hlk hV h9 (Nat.le_of_ble_eq_true rfl) (Nat.le_of_ble_eq_true rfl) dX0_giveBack_51
def fX0_giveBack_5 (fu : Nat) : Nat → hS → Option Nat → Option Nat → Option (Unit × hS)
  | 0, _, _, _ => none
  | n + 1, S, x1, x2 => if x2 = none then (fX0_giveBack_36 fu S x1) else ((gR S 1 2 x2).bind fun v2 =>
if v2 = x1 then ((gR S 1 2 x1).bind fun v9 =>
(pV S 1 2 x2 (va_rf v9)).bind fun S12 =>
fX0_giveBack_36 fu S12 x1) else ((gR S 1 2 x2).bind fun v6 =>
fX0_giveBack_5 fu n S x1 v6))
set_option maxHeartbeats 4000000 in
set_option maxRecDepth 100000 in
theorem kX0_giveBack_5 {p : Program} {l : Launch} {e : Env} {s : State} {m : MethodId} {args : Array Value} {below : List Frame} {meth : Method} {c : Code} {D : hD} {S0 : hS} {z : Unit × hS} (C : hCx p m c cX0_giveBack 3 s args RX0 meth none D) (fu : Nat) : ∀ (n : Nat) (S : hS) (x1 : Option Nat) (x2 : Option Nat) (H : Heap) (locs : List Loc) (ls : Array Slot), fX0_giveBack_5 fu n S x1 x2 = some z → h_V D (h_A S0) s S H locs → hl_has ls 3 [(1, .inr x1), (2, .inr x2)] → W p l e { frames := 0, cells := 0, slots := 0, locals := 0 } s m args below meth c H locs 0 0 (MQ below (h_Q D (h_A S0) none z.2) args s 0 0 (h_A S0)) (F0 m 5 ls []) := by
  obtain ⟨-, hx, hb, hml, hown, hr, hlk, hK, hts⟩ := id C
  intro n
  induction n with
  | zero =>
    intro S x1 x2 _ _ _ h hV hl
    rw [fX0_giveBack_5] at h
    cases h
  | succ n ih =>
    intro S x1 x2 _ _ _ h hV hl
    rw [fX0_giveBack_5] at h
    refine hr_aload_n hx hb dX0_giveBack_5 rfl (hr_at hl 1 rfl) ?_
    refine hr_ifnull (tgt := 36) hx hb dX0_giveBack_6 (by decide) (fun c1 => ?_) (fun c1 => ?_)
    · rw [if_pos c1] at h
      exact kX0_giveBack_36 C fu S x1 _ _ _ h hV (hl_sub hl [0] rfl)
    · rw [if_neg c1] at h
      refine hr_aload_n hx hb dX0_giveBack_9 rfl (hr_at hl 1 rfl) ?_
      obtain ⟨v2, g3, h4⟩ := hbind h; clear h
      refine h_gR hx hb hown hV g3 (flRX0_42 hts hK) dX0_giveBack_10 ?_
      refine hr_aload_n hx hb dX0_giveBack_13 rfl (hr_at hl 0 rfl) ?_
      refine lv_acmp_ne (tgt := 28) hx hb dX0_giveBack_14 (by decide) (fun c5 => ?_) (fun c5 => ?_)
      · rw [if_neg c5] at h4
        refine hr_aload_n hx hb dX0_giveBack_28 rfl (hr_at hl 1 rfl) ?_
        obtain ⟨v6, g7, h8⟩ := hbind h4; clear h4
        refine h_gR hx hb hown hV g7 (flRX0_42 hts hK) dX0_giveBack_29 ?_
        refine h_astore_n (tl' := [(2, .inr v6), (1, .inr x1)]) hx hb dX0_giveBack_32 rfl hl (by decide) rfl (fun ls hl => ?_)
        refine lv_goto (tgt := 5) hx hb dX0_giveBack_33 (by decide) ?_
        exact ih S x1 v6 _ _ _ h8 hV (hl_sub hl [1, 0] rfl)
      · rw [if_pos c5] at h4
        refine hr_aload_n hx hb dX0_giveBack_17 rfl (hr_at hl 1 rfl) ?_
        refine hr_aload_n hx hb dX0_giveBack_18 rfl (hr_at hl 0 rfl) ?_
        obtain ⟨v9, g10, h11⟩ := hbind h4; clear h4
        refine h_gR hx hb hown hV g10 (flRX0_42 hts hK) dX0_giveBack_19 ?_
        obtain ⟨S12, g13, h14⟩ := hbind h11; clear h11
        refine h_put hx hb hown hV g13 (fpRX0_42 hts hK) (h_narO _) (h_fitO _) dX0_giveBack_22 (fun H locs hV => ?_)
        refine lv_goto (tgt := 36) hx hb dX0_giveBack_25 (by decide) ?_
        exact kX0_giveBack_36 C fu S12 x1 _ _ _ h14 hV (hl_sub hl [0] rfl)
def fX0_giveBack (fu : Nat) (S : hS) (a0 : Nat) (x1 : Option Nat) : Option (Unit × hS) := (gR S 0 1 (some a0)).bind fun v1 => fX0_giveBack_5 fu fu S x1 v1
set_option maxHeartbeats 4000000 in
set_option maxRecDepth 100000 in
theorem mX0_giveBack (l : Launch) (D : hD) (fu : Nat) (S : hS) (a0 : Nat) (x1 : Option Nat) (z : Unit × hS) (h : fX0_giveBack fu S a0 x1 = some z) : hM l D yX0_giveBack cX0_giveBack 3 none 0 0 0 0 [va_rf (some a0), va_rf x1] S none z.2 := by
  refine h_body [.inr (some a0), .inr x1] RX0 (by decide) rfl (Nat.le_of_ble_eq_true rfl) ?_
  intro p e s m args below meth c C hin ls hV hl
  obtain ⟨-, hx, hb, hml, hown, hr, hlk, hK, hts⟩ := id C
  unfold fX0_giveBack at h
  refine hr_aload_n hx hb dX0_giveBack_0 rfl (hr_at hl 0 rfl) ?_
  obtain ⟨v1, g2, h3⟩ := hbind h; clear h
  refine h_gR hx hb hown hV g2 (flRX0_24 hts hK) dX0_giveBack_1 ?_
  refine h_astore_n (tl' := [(2, .inr v1), (0, .inr (some a0)), (1, .inr x1)]) hx hb dX0_giveBack_4 rfl hl (by decide) rfl (fun ls hl => ?_)
  exact kX0_giveBack_5 C fu fu S x1 v1 _ _ _ h3 hV (hl_sub hl [2, 0] rfl)
def fX0_moveAllDown_49 (fu : Nat) (k12 : hS → Nat → Int32 → Int32 → Option Nat → Option (Int32 × hS)) (S : hS) (a0 : Nat) (x1 : Int32) (x3 : Option Nat) : Option (Int32 × hS) := (rcv S 1 x3).bind fun b3 => bn2 (fX1_end fu S b3) fun r1 S2 => (gR S2 1 2 x3).bind fun v9 => k12 S2 a0 x1 r1 v9
set_option maxHeartbeats 4000000 in
set_option maxRecDepth 100000 in
theorem kX0_moveAllDown_49 {p : Program} {l : Launch} {e : Env} {s : State} {m : MethodId} {args : Array Value} {below : List Frame} {meth : Method} {c : Code} {D : hD} {S0 : hS} {z : Int32 × hS} (C : hCx p m c cX0_moveAllDown 4 s args RX0 meth (some .int) D) (fu : Nat) (k12 : hS → Nat → Int32 → Int32 → Option Nat → Option (Int32 × hS)) (hk12 : ∀ (S : hS) (a0 : Nat) (x1 : Int32) (x2 : Int32) (x3 : Option Nat) (H : Heap) (locs : List Loc) (ls : Array Slot), k12 S a0 x1 x2 x3 = some z → h_V D (h_A S0) s S H locs → hl_has ls 4 [(0, .inr (some a0)), (1, .inl x1), (2, .inl x2), (3, .inr x3)] → W p l e { frames := 2, cells := 0, slots := 0, locals := 42 } s m args below meth c H locs 0 0 (MQ below (h_Q D (h_A S0) (some (.int z.1)) z.2) args s 0 0 (h_A S0)) (F0 m 12 ls [])) : ∀ (S : hS) (a0 : Nat) (x1 : Int32) (x3 : Option Nat) (H : Heap) (locs : List Loc) (ls : Array Slot), fX0_moveAllDown_49 fu k12 S a0 x1 x3 = some z → h_V D (h_A S0) s S H locs → hl_has ls 4 [(0, .inr (some a0)), (1, .inl x1), (3, .inr x3)] → W p l e { frames := 2, cells := 0, slots := 0, locals := 42 } s m args below meth c H locs 0 0 (MQ below (h_Q D (h_A S0) (some (.int z.1)) z.2) args s 0 0 (h_A S0)) (F0 m 49 ls []) := by
  obtain ⟨-, hx, hb, hml, hown, hr, hlk, hK, hts⟩ := id C
  intro S a0 x1 x3 _ _ _ h hV hl
  unfold fX0_moveAllDown_49 at h
  refine hr_aload_n hx hb dX0_moveAllDown_49 rfl (hr_at hl 2 rfl) ?_
  obtain ⟨b3, g4, h5⟩ := hbind h; clear h
  obtain ⟨_, _, e6, q6⟩ := rcv_inv g4
  obtain ⟨r1, S2, g7, h8⟩ := hbn2 h5; clear h5
  refine h_callVN (n := 0) (As := []) (rest := []) (st1 := [.int r1]) (fr := 0) (lo := 0) (mc := 0) (ms := 0) C.1 hK hV q6 rfl rfl wd266 (wo263 hK.2) wd265 wd4 wd81 ⟨by decide, by decide, by decide⟩ ⟨(Nat.le_of_ble_eq_true rfl), (Nat.le_of_ble_eq_true rfl)⟩ rfl hl.1 (hW_ok [] (Nat.le_of_ble_eq_true rfl)) dX0_moveAllDown_50 ⟨(Nat.le_of_ble_eq_true rfl), (Nat.le_of_ble_eq_true rfl)⟩ rfl (by rw [e6]; rfl) (mX1_end l D fu S b3 _ g7) (fun H locs hV => ?_)
  refine h_istore_n (tl' := [(2, .inl r1), (0, .inr (some a0)), (1, .inl x1), (3, .inr x3)]) hx hb dX0_moveAllDown_53 rfl hl (by decide) rfl (fun ls hl => ?_)
  refine hr_aload_n hx hb dX0_moveAllDown_54 rfl (hr_at hl 3 rfl) ?_
  obtain ⟨v9, g10, h11⟩ := hbind h8; clear h8
  refine h_gR hx hb hown hV g10 (flRX0_42 hts hK) dX0_moveAllDown_55 ?_
  refine h_astore_n (tl' := [(3, .inr v9), (2, .inl r1), (0, .inr (some a0)), (1, .inl x1)]) hx hb dX0_moveAllDown_58 rfl hl (by decide) rfl (fun ls hl => ?_)
  refine lv_goto (tgt := 12) hx hb dX0_moveAllDown_59 (by decide) ?_
  exact hk12 S2 a0 x1 r1 v9 _ _ _ h11 hV (hl_sub hl [2, 3, 1, 0] rfl)
def fX0_moveAllDown_12 (fu : Nat) : Nat → hS → Nat → Int32 → Int32 → Option Nat → Option (Int32 × hS)
  | 0, _, _, _, _, _ => none
  | n + 1, S, a0, x1, x2, x3 => if x3 = none then (some (x1, S)) else ((gI S 1 0 x3).bind fun v2 =>
if v2 = x2 then (fX0_moveAllDown_49 fu (fX0_moveAllDown_12 fu n) S a0 x1 x3) else ((gI S 1 0 x3).bind fun v6 =>
(gI S 1 1 x3).bind fun v9 =>
(rcv S 0 (some a0)).bind fun b14 =>
bn2 (fX0_copy fu S b14 v6 x2 v9) fun _ S13 =>
(pV S13 1 0 x3 (.int x2)).bind fun S20 =>
(gI S20 1 1 x3).bind fun v23 =>
fX0_moveAllDown_49 fu (fX0_moveAllDown_12 fu n) S20 a0 (x1 + v23) x3))
set_option maxHeartbeats 4000000 in
set_option maxRecDepth 100000 in
theorem kX0_moveAllDown_12 {p : Program} {l : Launch} {e : Env} {s : State} {m : MethodId} {args : Array Value} {below : List Frame} {meth : Method} {c : Code} {D : hD} {S0 : hS} {z : Int32 × hS} (C : hCx p m c cX0_moveAllDown 4 s args RX0 meth (some .int) D) (fu : Nat) : ∀ (n : Nat) (S : hS) (a0 : Nat) (x1 : Int32) (x2 : Int32) (x3 : Option Nat) (H : Heap) (locs : List Loc) (ls : Array Slot), fX0_moveAllDown_12 fu n S a0 x1 x2 x3 = some z → h_V D (h_A S0) s S H locs → hl_has ls 4 [(0, .inr (some a0)), (1, .inl x1), (2, .inl x2), (3, .inr x3)] → W p l e { frames := 2, cells := 0, slots := 0, locals := 42 } s m args below meth c H locs 0 0 (MQ below (h_Q D (h_A S0) (some (.int z.1)) z.2) args s 0 0 (h_A S0)) (F0 m 12 ls []) := by
  obtain ⟨-, hx, hb, hml, hown, hr, hlk, hK, hts⟩ := id C
  intro n
  induction n with
  | zero =>
    intro S a0 x1 x2 x3 _ _ _ h hV hl
    rw [fX0_moveAllDown_12] at h
    cases h
  | succ n ih =>
    intro S a0 x1 x2 x3 _ _ _ h hV hl
    rw [fX0_moveAllDown_12] at h
    refine hr_aload_n hx hb dX0_moveAllDown_12 rfl (hr_at hl 3 rfl) ?_
    refine hr_ifnull (tgt := 62) hx hb dX0_moveAllDown_13 (by decide) (fun c1 => ?_) (fun c1 => ?_)
    · rw [if_pos c1] at h
      refine lv_iload_n hx hb dX0_moveAllDown_62 rfl (hi_at hl 1 rfl) ?_
      exact h_iret hx hb hr hlk hV h (Nat.le_of_ble_eq_true rfl) (Nat.le_of_ble_eq_true rfl) dX0_moveAllDown_63
    · rw [if_neg c1] at h
      refine hr_aload_n hx hb dX0_moveAllDown_16 rfl (hr_at hl 3 rfl) ?_
      obtain ⟨v2, g3, h4⟩ := hbind h; clear h
      refine h_gI hx hb hown hV g3 (flRX0_28 hts hK) dX0_moveAllDown_17 ?_
      refine lv_iload_n hx hb dX0_moveAllDown_20 rfl (hi_at hl 2 rfl) ?_
      refine lv_icmp_eq (tgt := 49) hx hb dX0_moveAllDown_21 (by decide) (fun c5 => ?_) (fun c5 => ?_)
      · rw [if_pos c5] at h4
        exact kX0_moveAllDown_49 C fu (fX0_moveAllDown_12 fu n) ih S a0 x1 x3 _ _ _ h4 hV (hl_sub hl [0, 1, 3] rfl)
      · rw [if_neg c5] at h4
        refine hr_aload_n hx hb dX0_moveAllDown_24 rfl (hr_at hl 0 rfl) ?_
        refine hr_aload_n hx hb dX0_moveAllDown_25 rfl (hr_at hl 3 rfl) ?_
        obtain ⟨v6, g7, h8⟩ := hbind h4; clear h4
        refine h_gI hx hb hown hV g7 (flRX0_28 hts hK) dX0_moveAllDown_26 ?_
        refine lv_iload_n hx hb dX0_moveAllDown_29 rfl (hi_at hl 2 rfl) ?_
        refine hr_aload_n hx hb dX0_moveAllDown_30 rfl (hr_at hl 3 rfl) ?_
        obtain ⟨v9, g10, h11⟩ := hbind h8; clear h8
        refine h_gI hx hb hown hV g10 (flRX0_57 hts hK) dX0_moveAllDown_31 ?_
        obtain ⟨b14, g15, h16⟩ := hbind h11; clear h11
        obtain ⟨_, _, e17, q17⟩ := rcv_inv g15
        obtain ⟨r12, S13, g18, h19⟩ := hbn2 h16; clear h16
        refine h_callV (n := 3) (As := [.int v6, .int x2, .int v9]) (rest := []) (st1 := []) (fr := 1) (lo := 18) (mc := 0) (ms := 0) C.1 hK hV q17 rfl rfl wd314 wd654 wd313 wd13 wd79 ⟨by decide, by decide, by decide⟩ ⟨(Nat.le_of_ble_eq_true rfl), (Nat.le_of_ble_eq_true rfl)⟩ rfl hl.1 (hW_ok [] (Nat.le_of_ble_eq_true rfl)) dX0_moveAllDown_34 ⟨(Nat.le_of_ble_eq_true rfl), (Nat.le_of_ble_eq_true rfl)⟩ rfl (by rw [e17]; rfl) (mX0_copy l D fu S b14 v6 x2 v9 _ g18) (fun H locs hV => ?_)
        refine hr_aload_n hx hb dX0_moveAllDown_37 rfl (hr_at hl 3 rfl) ?_
        refine lv_iload_n hx hb dX0_moveAllDown_38 rfl (hi_at hl 2 rfl) ?_
        obtain ⟨S20, g21, h22⟩ := hbind h19; clear h19
        refine h_put hx hb hown hV g21 (fpRX0_28 hts hK) rfl rfl dX0_moveAllDown_39 (fun H locs hV => ?_)
        refine lv_iload_n hx hb dX0_moveAllDown_42 rfl (hi_at hl 1 rfl) ?_
        refine hr_aload_n hx hb dX0_moveAllDown_43 rfl (hr_at hl 3 rfl) ?_
        obtain ⟨v23, g24, h25⟩ := hbind h22; clear h22
        refine h_gI hx hb hown hV g24 (flRX0_57 hts hK) dX0_moveAllDown_44 ?_
        refine lv_iadd hx hb dX0_moveAllDown_47 ?_
        refine h_istore_n (tl' := [(1, .inl (x1 + v23)), (0, .inr (some a0)), (2, .inl x2), (3, .inr x3)]) hx hb dX0_moveAllDown_48 rfl hl (by decide) rfl (fun ls hl => ?_)
        exact kX0_moveAllDown_49 C fu (fX0_moveAllDown_12 fu n) ih S20 a0 (x1 + v23) x3 _ _ _ h25 hV (hl_sub hl [1, 0, 3] rfl)
def fX0_moveAllDown (fu : Nat) (S : hS) (a0 : Nat) : Option (Int32 × hS) := (gR S 0 1 (some a0)).bind fun v1 => (gR S 1 2 v1).bind fun v4 => fX0_moveAllDown_12 fu fu S a0 (0 : Int32) (0 : Int32) v4
set_option maxHeartbeats 4000000 in
set_option maxRecDepth 100000 in
theorem mX0_moveAllDown (l : Launch) (D : hD) (fu : Nat) (S : hS) (a0 : Nat) (z : Int32 × hS) (h : fX0_moveAllDown fu S a0 = some z) : hM l D yX0_moveAllDown cX0_moveAllDown 4 (some .int) 2 42 0 0 [va_rf (some a0)] S (some (.int z.1)) z.2 := by
  refine h_body [.inr (some a0)] RX0 (by decide) rfl (Nat.le_of_ble_eq_true rfl) ?_
  intro p e s m args below meth c C hin ls hV hl
  obtain ⟨-, hx, hb, hml, hown, hr, hlk, hK, hts⟩ := id C
  unfold fX0_moveAllDown at h
  refine lv_iconst (v := 0) hx hb dX0_moveAllDown_0 (by decide) ?_
  refine h_istore_n (tl' := [(1, .inl (0 : Int32)), (0, .inr (some a0))]) hx hb dX0_moveAllDown_1 rfl hl (by decide) rfl (fun ls hl => ?_)
  refine lv_iconst (v := 0) hx hb dX0_moveAllDown_2 (by decide) ?_
  refine h_istore_n (tl' := [(2, .inl (0 : Int32)), (1, .inl (0 : Int32)), (0, .inr (some a0))]) hx hb dX0_moveAllDown_3 rfl hl (by decide) rfl (fun ls hl => ?_)
  refine hr_aload_n hx hb dX0_moveAllDown_4 rfl (hr_at hl 2 rfl) ?_
  obtain ⟨v1, g2, h3⟩ := hbind h; clear h
  refine h_gR hx hb hown hV g2 (flRX0_24 hts hK) dX0_moveAllDown_5 ?_
  obtain ⟨v4, g5, h6⟩ := hbind h3; clear h3
  refine h_gR hx hb hown hV g5 (flRX0_42 hts hK) dX0_moveAllDown_8 ?_
  refine h_astore_n (tl' := [(3, .inr v4), (2, .inl (0 : Int32)), (1, .inl (0 : Int32)), (0, .inr (some a0))]) hx hb dX0_moveAllDown_11 rfl hl (by decide) rfl (fun ls hl => ?_)
  exact kX0_moveAllDown_12 C fu fu S a0 (0 : Int32) (0 : Int32) v4 _ _ _ h6 hV (hl_sub hl [3, 2, 1, 0] rfl)
def fX0_countFreeWords_7 (fu : Nat) : Nat → hS → Nat → Int32 → Option Nat → Option (Int32 × hS)
  | 0, _, _, _, _ => none
  | n + 1, S, a0, x1, x2 => if x2 = none then (some (x1, S)) else ((rcv S 0 (some a0)).bind fun b4 =>
bn2 (fX0_gapBehind fu S b4 x2) fun r2 S3 =>
(gR S3 1 2 x2).bind fun v10 =>
fX0_countFreeWords_7 fu n S3 a0 (x1 + r2) v10)
set_option maxHeartbeats 4000000 in
set_option maxRecDepth 100000 in
theorem kX0_countFreeWords_7 {p : Program} {l : Launch} {e : Env} {s : State} {m : MethodId} {args : Array Value} {below : List Frame} {meth : Method} {c : Code} {D : hD} {S0 : hS} {z : Int32 × hS} (C : hCx p m c cX0_countFreeWords 3 s args RX0 meth (some .int) D) (fu : Nat) : ∀ (n : Nat) (S : hS) (a0 : Nat) (x1 : Int32) (x2 : Option Nat) (H : Heap) (locs : List Loc) (ls : Array Slot), fX0_countFreeWords_7 fu n S a0 x1 x2 = some z → h_V D (h_A S0) s S H locs → hl_has ls 3 [(0, .inr (some a0)), (1, .inl x1), (2, .inr x2)] → W p l e { frames := 2, cells := 0, slots := 0, locals := 42 } s m args below meth c H locs 0 0 (MQ below (h_Q D (h_A S0) (some (.int z.1)) z.2) args s 0 0 (h_A S0)) (F0 m 7 ls []) := by
  obtain ⟨-, hx, hb, hml, hown, hr, hlk, hK, hts⟩ := id C
  intro n
  induction n with
  | zero =>
    intro S a0 x1 x2 _ _ _ h hV hl
    rw [fX0_countFreeWords_7] at h
    cases h
  | succ n ih =>
    intro S a0 x1 x2 _ _ _ h hV hl
    rw [fX0_countFreeWords_7] at h
    refine hr_aload_n hx hb dX0_countFreeWords_7 rfl (hr_at hl 2 rfl) ?_
    refine hr_ifnull (tgt := 27) hx hb dX0_countFreeWords_8 (by decide) (fun c1 => ?_) (fun c1 => ?_)
    · rw [if_pos c1] at h
      refine lv_iload_n hx hb dX0_countFreeWords_27 rfl (hi_at hl 1 rfl) ?_
      exact h_iret hx hb hr hlk hV h (Nat.le_of_ble_eq_true rfl) (Nat.le_of_ble_eq_true rfl) dX0_countFreeWords_28
    · rw [if_neg c1] at h
      refine lv_iload_n hx hb dX0_countFreeWords_11 rfl (hi_at hl 1 rfl) ?_
      refine hr_aload_n hx hb dX0_countFreeWords_12 rfl (hr_at hl 0 rfl) ?_
      refine hr_aload_n hx hb dX0_countFreeWords_13 rfl (hr_at hl 2 rfl) ?_
      obtain ⟨b4, g5, h6⟩ := hbind h; clear h
      obtain ⟨_, _, e7, q7⟩ := rcv_inv g5
      obtain ⟨r2, S3, g8, h9⟩ := hbn2 h6; clear h6
      refine h_callV (n := 1) (As := [va_rf x2]) (rest := [.int x1]) (st1 := [.int r2, .int x1]) (fr := 1) (lo := 20) (mc := 0) (ms := 0) C.1 hK hV q7 rfl rfl wd262 wd259 wd261 wd3 wd79 ⟨by decide, by decide, by decide⟩ ⟨(Nat.le_of_ble_eq_true rfl), (Nat.le_of_ble_eq_true rfl)⟩ rfl hl.1 (hW_ok [.inl x1] (Nat.le_of_ble_eq_true rfl)) dX0_countFreeWords_14 ⟨(Nat.le_of_ble_eq_true rfl), (Nat.le_of_ble_eq_true rfl)⟩ rfl (by rw [e7]; rfl) (mX0_gapBehind l D fu S b4 x2 _ g8) (fun H locs hV => ?_)
      refine lv_iadd hx hb dX0_countFreeWords_17 ?_
      refine h_istore_n (tl' := [(1, .inl (x1 + r2)), (0, .inr (some a0)), (2, .inr x2)]) hx hb dX0_countFreeWords_18 rfl hl (by decide) rfl (fun ls hl => ?_)
      refine hr_aload_n hx hb dX0_countFreeWords_19 rfl (hr_at hl 2 rfl) ?_
      obtain ⟨v10, g11, h12⟩ := hbind h9; clear h9
      refine h_gR hx hb hown hV g11 (flRX0_42 hts hK) dX0_countFreeWords_20 ?_
      refine h_astore_n (tl' := [(2, .inr v10), (1, .inl (x1 + r2)), (0, .inr (some a0))]) hx hb dX0_countFreeWords_23 rfl hl (by decide) rfl (fun ls hl => ?_)
      refine lv_goto (tgt := 7) hx hb dX0_countFreeWords_24 (by decide) ?_
      exact ih S3 a0 (x1 + r2) v10 _ _ _ h12 hV (hl_sub hl [2, 1, 0] rfl)
def fX0_countFreeWords (fu : Nat) (S : hS) (a0 : Nat) : Option (Int32 × hS) := (gR S 0 1 (some a0)).bind fun v1 => fX0_countFreeWords_7 fu fu S a0 (0 : Int32) v1
set_option maxHeartbeats 4000000 in
set_option maxRecDepth 100000 in
theorem mX0_countFreeWords (l : Launch) (D : hD) (fu : Nat) (S : hS) (a0 : Nat) (z : Int32 × hS) (h : fX0_countFreeWords fu S a0 = some z) : hM l D yX0_countFreeWords cX0_countFreeWords 3 (some .int) 2 42 0 0 [va_rf (some a0)] S (some (.int z.1)) z.2 := by
  refine h_body [.inr (some a0)] RX0 (by decide) rfl (Nat.le_of_ble_eq_true rfl) ?_
  intro p e s m args below meth c C hin ls hV hl
  obtain ⟨-, hx, hb, hml, hown, hr, hlk, hK, hts⟩ := id C
  unfold fX0_countFreeWords at h
  refine lv_iconst (v := 0) hx hb dX0_countFreeWords_0 (by decide) ?_
  refine h_istore_n (tl' := [(1, .inl (0 : Int32)), (0, .inr (some a0))]) hx hb dX0_countFreeWords_1 rfl hl (by decide) rfl (fun ls hl => ?_)
  refine hr_aload_n hx hb dX0_countFreeWords_2 rfl (hr_at hl 1 rfl) ?_
  obtain ⟨v1, g2, h3⟩ := hbind h; clear h
  refine h_gR hx hb hown hV g2 (flRX0_24 hts hK) dX0_countFreeWords_3 ?_
  refine h_astore_n (tl' := [(2, .inr v1), (1, .inl (0 : Int32)), (0, .inr (some a0))]) hx hb dX0_countFreeWords_6 rfl hl (by decide) rfl (fun ls hl => ?_)
  exact kX0_countFreeWords_7 C fu fu S a0 (0 : Int32) v1 _ _ _ h3 hV (hl_sub hl [2, 1, 0] rfl)
def fX0_sizeOfLargestGap_7 (fu : Nat) : Nat → hS → Nat → Int32 → Option Nat → Option (Int32 × hS)
  | 0, _, _, _, _ => none
  | n + 1, S, a0, x1, x2 => if x2 = none then (some (x1, S)) else ((rcv S 0 (some a0)).bind fun b4 =>
bn2 (fX0_gapBehind fu S b4 x2) fun r2 S3 =>
(gR S3 1 2 x2).bind fun v10 =>
fX0_sizeOfLargestGap_7 fu n S3 a0 (imx x1 r2) v10)
set_option maxHeartbeats 4000000 in
set_option maxRecDepth 100000 in
theorem kX0_sizeOfLargestGap_7 {p : Program} {l : Launch} {e : Env} {s : State} {m : MethodId} {args : Array Value} {below : List Frame} {meth : Method} {c : Code} {D : hD} {S0 : hS} {z : Int32 × hS} (C : hCx p m c cX0_sizeOfLargestGap 3 s args RX0 meth (some .int) D) (fu : Nat) : ∀ (n : Nat) (S : hS) (a0 : Nat) (x1 : Int32) (x2 : Option Nat) (H : Heap) (locs : List Loc) (ls : Array Slot), fX0_sizeOfLargestGap_7 fu n S a0 x1 x2 = some z → h_V D (h_A S0) s S H locs → hl_has ls 3 [(0, .inr (some a0)), (1, .inl x1), (2, .inr x2)] → W p l e { frames := 2, cells := 0, slots := 0, locals := 42 } s m args below meth c H locs 0 0 (MQ below (h_Q D (h_A S0) (some (.int z.1)) z.2) args s 0 0 (h_A S0)) (F0 m 7 ls []) := by
  obtain ⟨-, hx, hb, hml, hown, hr, hlk, hK, hts⟩ := id C
  intro n
  induction n with
  | zero =>
    intro S a0 x1 x2 _ _ _ h hV hl
    rw [fX0_sizeOfLargestGap_7] at h
    cases h
  | succ n ih =>
    intro S a0 x1 x2 _ _ _ h hV hl
    rw [fX0_sizeOfLargestGap_7] at h
    refine hr_aload_n hx hb dX0_sizeOfLargestGap_7 rfl (hr_at hl 2 rfl) ?_
    refine hr_ifnull (tgt := 29) hx hb dX0_sizeOfLargestGap_8 (by decide) (fun c1 => ?_) (fun c1 => ?_)
    · rw [if_pos c1] at h
      refine lv_iload_n hx hb dX0_sizeOfLargestGap_29 rfl (hi_at hl 1 rfl) ?_
      exact h_iret hx hb hr hlk hV h (Nat.le_of_ble_eq_true rfl) (Nat.le_of_ble_eq_true rfl) dX0_sizeOfLargestGap_30
    · rw [if_neg c1] at h
      refine lv_iload_n hx hb dX0_sizeOfLargestGap_11 rfl (hi_at hl 1 rfl) ?_
      refine hr_aload_n hx hb dX0_sizeOfLargestGap_12 rfl (hr_at hl 0 rfl) ?_
      refine hr_aload_n hx hb dX0_sizeOfLargestGap_13 rfl (hr_at hl 2 rfl) ?_
      obtain ⟨b4, g5, h6⟩ := hbind h; clear h
      obtain ⟨_, _, e7, q7⟩ := rcv_inv g5
      obtain ⟨r2, S3, g8, h9⟩ := hbn2 h6; clear h6
      refine h_callV (n := 1) (As := [va_rf x2]) (rest := [.int x1]) (st1 := [.int r2, .int x1]) (fr := 1) (lo := 20) (mc := 0) (ms := 0) C.1 hK hV q7 rfl rfl wd262 wd259 wd261 wd3 wd79 ⟨by decide, by decide, by decide⟩ ⟨(Nat.le_of_ble_eq_true rfl), (Nat.le_of_ble_eq_true rfl)⟩ rfl hl.1 (hW_ok [.inl x1] (Nat.le_of_ble_eq_true rfl)) dX0_sizeOfLargestGap_14 ⟨(Nat.le_of_ble_eq_true rfl), (Nat.le_of_ble_eq_true rfl)⟩ rfl (by rw [e7]; rfl) (mX0_gapBehind l D fu S b4 x2 _ g8) (fun H locs hV => ?_)
      refine h_mmax hx hb (hml.trans hl.1.symm) hown hts wd114 wd108 wd80 wd109 (Nat.le_of_ble_eq_true rfl) (hW_okL [] (Nat.le_of_ble_eq_true rfl)) (Nat.le_of_ble_eq_true rfl) (Nat.le_of_ble_eq_true rfl) dX0_sizeOfLargestGap_17 ?_
      refine h_istore_n (tl' := [(1, .inl (imx x1 r2)), (0, .inr (some a0)), (2, .inr x2)]) hx hb dX0_sizeOfLargestGap_20 rfl hl (by decide) rfl (fun ls hl => ?_)
      refine hr_aload_n hx hb dX0_sizeOfLargestGap_21 rfl (hr_at hl 2 rfl) ?_
      obtain ⟨v10, g11, h12⟩ := hbind h9; clear h9
      refine h_gR hx hb hown hV g11 (flRX0_42 hts hK) dX0_sizeOfLargestGap_22 ?_
      refine h_astore_n (tl' := [(2, .inr v10), (1, .inl (imx x1 r2)), (0, .inr (some a0))]) hx hb dX0_sizeOfLargestGap_25 rfl hl (by decide) rfl (fun ls hl => ?_)
      refine lv_goto (tgt := 7) hx hb dX0_sizeOfLargestGap_26 (by decide) ?_
      exact ih S3 a0 (imx x1 r2) v10 _ _ _ h12 hV (hl_sub hl [2, 1, 0] rfl)
def fX0_sizeOfLargestGap (fu : Nat) (S : hS) (a0 : Nat) : Option (Int32 × hS) := (gR S 0 1 (some a0)).bind fun v1 => fX0_sizeOfLargestGap_7 fu fu S a0 (0 : Int32) v1
set_option maxHeartbeats 4000000 in
set_option maxRecDepth 100000 in
theorem mX0_sizeOfLargestGap (l : Launch) (D : hD) (fu : Nat) (S : hS) (a0 : Nat) (z : Int32 × hS) (h : fX0_sizeOfLargestGap fu S a0 = some z) : hM l D yX0_sizeOfLargestGap cX0_sizeOfLargestGap 3 (some .int) 2 42 0 0 [va_rf (some a0)] S (some (.int z.1)) z.2 := by
  refine h_body [.inr (some a0)] RX0 (by decide) rfl (Nat.le_of_ble_eq_true rfl) ?_
  intro p e s m args below meth c C hin ls hV hl
  obtain ⟨-, hx, hb, hml, hown, hr, hlk, hK, hts⟩ := id C
  unfold fX0_sizeOfLargestGap at h
  refine lv_iconst (v := 0) hx hb dX0_sizeOfLargestGap_0 (by decide) ?_
  refine h_istore_n (tl' := [(1, .inl (0 : Int32)), (0, .inr (some a0))]) hx hb dX0_sizeOfLargestGap_1 rfl hl (by decide) rfl (fun ls hl => ?_)
  refine hr_aload_n hx hb dX0_sizeOfLargestGap_2 rfl (hr_at hl 1 rfl) ?_
  obtain ⟨v1, g2, h3⟩ := hbind h; clear h
  refine h_gR hx hb hown hV g2 (flRX0_24 hts hK) dX0_sizeOfLargestGap_3 ?_
  refine h_astore_n (tl' := [(2, .inr v1), (1, .inl (0 : Int32)), (0, .inr (some a0))]) hx hb dX0_sizeOfLargestGap_6 rfl hl (by decide) rfl (fun ls hl => ?_)
  exact kX0_sizeOfLargestGap_7 C fu fu S a0 (0 : Int32) v1 _ _ _ h3 hV (hl_sub hl [2, 1, 0] rfl)
def fX0_countGaps_22 (fu : Nat) (k7 : hS → Nat → Int32 → Option Nat → Option (Int32 × hS)) (S : hS) (a0 : Nat) (x1 : Int32) (x2 : Option Nat) : Option (Int32 × hS) := (gR S 1 2 x2).bind fun v1 => k7 S a0 x1 v1
set_option maxHeartbeats 4000000 in
set_option maxRecDepth 100000 in
theorem kX0_countGaps_22 {p : Program} {l : Launch} {e : Env} {s : State} {m : MethodId} {args : Array Value} {below : List Frame} {meth : Method} {c : Code} {D : hD} {S0 : hS} {z : Int32 × hS} (C : hCx p m c cX0_countGaps 3 s args RX0 meth (some .int) D) (fu : Nat) (k7 : hS → Nat → Int32 → Option Nat → Option (Int32 × hS)) (hk7 : ∀ (S : hS) (a0 : Nat) (x1 : Int32) (x2 : Option Nat) (H : Heap) (locs : List Loc) (ls : Array Slot), k7 S a0 x1 x2 = some z → h_V D (h_A S0) s S H locs → hl_has ls 3 [(0, .inr (some a0)), (1, .inl x1), (2, .inr x2)] → W p l e { frames := 2, cells := 0, slots := 0, locals := 42 } s m args below meth c H locs 0 0 (MQ below (h_Q D (h_A S0) (some (.int z.1)) z.2) args s 0 0 (h_A S0)) (F0 m 7 ls [])) : ∀ (S : hS) (a0 : Nat) (x1 : Int32) (x2 : Option Nat) (H : Heap) (locs : List Loc) (ls : Array Slot), fX0_countGaps_22 fu k7 S a0 x1 x2 = some z → h_V D (h_A S0) s S H locs → hl_has ls 3 [(0, .inr (some a0)), (1, .inl x1), (2, .inr x2)] → W p l e { frames := 2, cells := 0, slots := 0, locals := 42 } s m args below meth c H locs 0 0 (MQ below (h_Q D (h_A S0) (some (.int z.1)) z.2) args s 0 0 (h_A S0)) (F0 m 22 ls []) := by
  obtain ⟨-, hx, hb, hml, hown, hr, hlk, hK, hts⟩ := id C
  intro S a0 x1 x2 _ _ _ h hV hl
  unfold fX0_countGaps_22 at h
  refine hr_aload_n hx hb dX0_countGaps_22 rfl (hr_at hl 2 rfl) ?_
  obtain ⟨v1, g2, h3⟩ := hbind h; clear h
  refine h_gR hx hb hown hV g2 (flRX0_42 hts hK) dX0_countGaps_23 ?_
  refine h_astore_n (tl' := [(2, .inr v1), (0, .inr (some a0)), (1, .inl x1)]) hx hb dX0_countGaps_26 rfl hl (by decide) rfl (fun ls hl => ?_)
  refine lv_goto (tgt := 7) hx hb dX0_countGaps_27 (by decide) ?_
  exact hk7 S a0 x1 v1 _ _ _ h3 hV (hl_sub hl [1, 2, 0] rfl)
def fX0_countGaps_7 (fu : Nat) : Nat → hS → Nat → Int32 → Option Nat → Option (Int32 × hS)
  | 0, _, _, _, _ => none
  | n + 1, S, a0, x1, x2 => if x2 = none then (some (x1, S)) else ((rcv S 0 (some a0)).bind fun b4 =>
bn2 (fX0_gapBehind fu S b4 x2) fun r2 S3 =>
if r2 ≤ 0 then (fX0_countGaps_22 fu (fX0_countGaps_7 fu n) S3 a0 x1 x2) else (fX0_countGaps_22 fu (fX0_countGaps_7 fu n) S3 a0 (x1 + (1 : Int32)) x2))
set_option maxHeartbeats 4000000 in
set_option maxRecDepth 100000 in
theorem kX0_countGaps_7 {p : Program} {l : Launch} {e : Env} {s : State} {m : MethodId} {args : Array Value} {below : List Frame} {meth : Method} {c : Code} {D : hD} {S0 : hS} {z : Int32 × hS} (C : hCx p m c cX0_countGaps 3 s args RX0 meth (some .int) D) (fu : Nat) : ∀ (n : Nat) (S : hS) (a0 : Nat) (x1 : Int32) (x2 : Option Nat) (H : Heap) (locs : List Loc) (ls : Array Slot), fX0_countGaps_7 fu n S a0 x1 x2 = some z → h_V D (h_A S0) s S H locs → hl_has ls 3 [(0, .inr (some a0)), (1, .inl x1), (2, .inr x2)] → W p l e { frames := 2, cells := 0, slots := 0, locals := 42 } s m args below meth c H locs 0 0 (MQ below (h_Q D (h_A S0) (some (.int z.1)) z.2) args s 0 0 (h_A S0)) (F0 m 7 ls []) := by
  obtain ⟨-, hx, hb, hml, hown, hr, hlk, hK, hts⟩ := id C
  intro n
  induction n with
  | zero =>
    intro S a0 x1 x2 _ _ _ h hV hl
    rw [fX0_countGaps_7] at h
    cases h
  | succ n ih =>
    intro S a0 x1 x2 _ _ _ h hV hl
    rw [fX0_countGaps_7] at h
    refine hr_aload_n hx hb dX0_countGaps_7 rfl (hr_at hl 2 rfl) ?_
    refine hr_ifnull (tgt := 30) hx hb dX0_countGaps_8 (by decide) (fun c1 => ?_) (fun c1 => ?_)
    · rw [if_pos c1] at h
      refine lv_iload_n hx hb dX0_countGaps_30 rfl (hi_at hl 1 rfl) ?_
      exact h_iret hx hb hr hlk hV h (Nat.le_of_ble_eq_true rfl) (Nat.le_of_ble_eq_true rfl) dX0_countGaps_31
    · rw [if_neg c1] at h
      refine hr_aload_n hx hb dX0_countGaps_11 rfl (hr_at hl 0 rfl) ?_
      refine hr_aload_n hx hb dX0_countGaps_12 rfl (hr_at hl 2 rfl) ?_
      obtain ⟨b4, g5, h6⟩ := hbind h; clear h
      obtain ⟨_, _, e7, q7⟩ := rcv_inv g5
      obtain ⟨r2, S3, g8, h9⟩ := hbn2 h6; clear h6
      refine h_callV (n := 1) (As := [va_rf x2]) (rest := []) (st1 := [.int r2]) (fr := 1) (lo := 20) (mc := 0) (ms := 0) C.1 hK hV q7 rfl rfl wd262 wd259 wd261 wd3 wd79 ⟨by decide, by decide, by decide⟩ ⟨(Nat.le_of_ble_eq_true rfl), (Nat.le_of_ble_eq_true rfl)⟩ rfl hl.1 (hW_ok [] (Nat.le_of_ble_eq_true rfl)) dX0_countGaps_13 ⟨(Nat.le_of_ble_eq_true rfl), (Nat.le_of_ble_eq_true rfl)⟩ rfl (by rw [e7]; rfl) (mX0_gapBehind l D fu S b4 x2 _ g8) (fun H locs hV => ?_)
      refine lv_if_le (tgt := 22) hx hb dX0_countGaps_16 (by decide) (fun c10 => ?_) (fun c10 => ?_)
      · rw [if_pos c10] at h9
        exact kX0_countGaps_22 C fu (fX0_countGaps_7 fu n) ih S3 a0 x1 x2 _ _ _ h9 hV (hl_sub hl [0, 1, 2] rfl)
      · rw [if_neg c10] at h9
        refine h_iinc (v := (x1 + (1 : Int32))) (tl' := [(1, .inl (x1 + (1 : Int32))), (0, .inr (some a0)), (2, .inr x2)]) hx hb dX0_countGaps_19 hl (k := 1) rfl rfl (by decide) rfl (fun ls hl => ?_)
        exact kX0_countGaps_22 C fu (fX0_countGaps_7 fu n) ih S3 a0 (x1 + (1 : Int32)) x2 _ _ _ h9 hV (hl_sub hl [1, 0, 2] rfl)
def fX0_countGaps (fu : Nat) (S : hS) (a0 : Nat) : Option (Int32 × hS) := (gR S 0 1 (some a0)).bind fun v1 => fX0_countGaps_7 fu fu S a0 (0 : Int32) v1
set_option maxHeartbeats 4000000 in
set_option maxRecDepth 100000 in
theorem mX0_countGaps (l : Launch) (D : hD) (fu : Nat) (S : hS) (a0 : Nat) (z : Int32 × hS) (h : fX0_countGaps fu S a0 = some z) : hM l D yX0_countGaps cX0_countGaps 3 (some .int) 2 42 0 0 [va_rf (some a0)] S (some (.int z.1)) z.2 := by
  refine h_body [.inr (some a0)] RX0 (by decide) rfl (Nat.le_of_ble_eq_true rfl) ?_
  intro p e s m args below meth c C hin ls hV hl
  obtain ⟨-, hx, hb, hml, hown, hr, hlk, hK, hts⟩ := id C
  unfold fX0_countGaps at h
  refine lv_iconst (v := 0) hx hb dX0_countGaps_0 (by decide) ?_
  refine h_istore_n (tl' := [(1, .inl (0 : Int32)), (0, .inr (some a0))]) hx hb dX0_countGaps_1 rfl hl (by decide) rfl (fun ls hl => ?_)
  refine hr_aload_n hx hb dX0_countGaps_2 rfl (hr_at hl 1 rfl) ?_
  obtain ⟨v1, g2, h3⟩ := hbind h; clear h
  refine h_gR hx hb hown hV g2 (flRX0_24 hts hK) dX0_countGaps_3 ?_
  refine h_astore_n (tl' := [(2, .inr v1), (1, .inl (0 : Int32)), (0, .inr (some a0))]) hx hb dX0_countGaps_6 rfl hl (by decide) rfl (fun ls hl => ?_)
  exact kX0_countGaps_7 C fu fu S a0 (0 : Int32) v1 _ _ _ h3 hV (hl_sub hl [2, 1, 0] rfl)
def fX8_init_36 (fu : Nat) (S : hS) (t0 : Option Nat) (t1 : Int32) : Option (Unit × hS) := (zz t1).bind fun _ => (pV4 S 3 t0 (.int t1)).bind fun S1 => some ((), S1)
set_option maxHeartbeats 4000000 in
set_option maxRecDepth 100000 in
theorem kX8_init_36 {p : Program} {l : Launch} {e : Env} {s : State} {m : MethodId} {args : Array Value} {below : List Frame} {meth : Method} {c : Code} {D : hD} {S0 : hS} {z : Unit × hS} (C : hCx p m c cX8_init 3 s args RX8 meth none D) (hin : meth.name = "<init>") (fu : Nat) : ∀ (S : hS) (t0 : Option Nat) (t1 : Int32) (H : Heap) (locs : List Loc) (ls : Array Slot), fX8_init_36 fu S t0 t1 = some z → h_V D (h_A S0) s S H locs → hl_has ls 3 [] → W p l e { frames := 1, cells := 0, slots := 0, locals := 12 } s m args below meth c H locs 0 0 (MQ below (h_Q D (h_A S0) none z.2) args s 0 0 (h_A S0)) (F0 m 36 ls [.int t1, va_rf t0]) := by
  obtain ⟨-, hx, hb, hml, hown, hr, hlk, hK, hts⟩ := id C
  intro S t0 t1 _ _ _ h hV hl
  unfold fX8_init_36 at h
  obtain ⟨v2, g3, h4⟩ := hbind h; clear h
  obtain ⟨S1, g5, h6⟩ := hbind h4; clear h4
  refine h_put4 hx hb hown hV g5 (fpRX8_26 hts hK) (zz_nar (zz_inv g3).2) (zz_fit (zz_inv g3).2) dX8_init_36 (fun H locs hV => ?_)
  exact h_vret hx hb hr hlk hV h6 (Nat.le_of_ble_eq_true rfl) (Nat.le_of_ble_eq_true rfl) dX8_init_39
def fX8_init (fu : Nat) (S : hS) (a0 : Nat) (x1 : Option Nat) (x2 : Option Nat) : Option (Unit × hS) := (pV4 S 0 (some a0) (va_rf x1)).bind fun S1 => (pV4 S1 1 (some a0) (va_rf x2)).bind fun S4 => (gI S4 1 1 x2).bind fun v7 => (pV4 S4 2 (some a0) (.int v7)).bind fun S10 => (gI4 S10 2 (some a0)).bind fun v13 => if (2 : Int32) ≤ v13 then (fX8_init_36 fu S10 (some a0) (0 : Int32)) else (fX8_init_36 fu S10 (some a0) (1 : Int32))
set_option maxHeartbeats 4000000 in
set_option maxRecDepth 100000 in
theorem mX8_init (l : Launch) (D : hD) (fu : Nat) (S : hS) (a0 : Nat) (x1 : Option Nat) (x2 : Option Nat) (z : Unit × hS) (h : fX8_init fu S a0 x1 x2 = some z) : hM l D yX8_init cX8_init 3 none 1 12 0 0 [va_rf (some a0), va_rf x1, va_rf x2] S none z.2 := by
  refine h_body [.inr (some a0), .inr x1, .inr x2] RX8 (by decide) rfl (Nat.le_of_ble_eq_true rfl) ?_
  intro p e s m args below meth c C hin ls hV hl
  obtain ⟨-, hx, hb, hml, hown, hr, hlk, hK, hts⟩ := id C
  unfold fX8_init at h
  refine hr_aload_n hx hb dX8_init_0 rfl (hr_at hl 0 rfl) ?_
  refine h_oinit hx hb (hl.1.trans hml.symm) hown hts wd334 wd97 wd98 (Nat.le_of_ble_eq_true rfl) (hW_okL [] (Nat.le_of_ble_eq_true rfl)) dX8_init_1 ?_
  refine hr_aload_n hx hb dX8_init_4 rfl (hr_at hl 0 rfl) ?_
  refine hr_aload_n hx hb dX8_init_5 rfl (hr_at hl 1 rfl) ?_
  obtain ⟨S1, g2, h3⟩ := hbind h; clear h
  refine h_put4 hx hb hown hV g2 (fpRX8_7 hts hK hown hin) (h_narO _) (h_fitO _) dX8_init_6 (fun H locs hV => ?_)
  refine hr_aload_n hx hb dX8_init_9 rfl (hr_at hl 0 rfl) ?_
  refine hr_aload_n hx hb dX8_init_10 rfl (hr_at hl 2 rfl) ?_
  obtain ⟨S4, g5, h6⟩ := hbind h3; clear h3
  refine h_put4 hx hb hown hV g5 (fpRX8_13 hts hK hown hin) (h_narO _) (h_fitO _) dX8_init_11 (fun H locs hV => ?_)
  refine hr_aload_n hx hb dX8_init_14 rfl (hr_at hl 0 rfl) ?_
  refine hr_aload_n hx hb dX8_init_15 rfl (hr_at hl 2 rfl) ?_
  obtain ⟨v7, g8, h9⟩ := hbind h6; clear h6
  refine h_gI hx hb hown hV g8 (flRX8_17 hts hK) dX8_init_16 ?_
  obtain ⟨S10, g11, h12⟩ := hbind h9; clear h9
  refine h_put4 hx hb hown hV g11 (fpRX8_23 hts hK hown hin) rfl rfl dX8_init_19 (fun H locs hV => ?_)
  refine hr_aload_n hx hb dX8_init_22 rfl (hr_at hl 0 rfl) ?_
  refine hr_aload_n hx hb dX8_init_23 rfl (hr_at hl 0 rfl) ?_
  obtain ⟨v13, g14, h15⟩ := hbind h12; clear h12
  refine h_gI4 hx hb hown hV g14 (flRX8_23 hts hK) dX8_init_24 ?_
  refine lv_iconst (v := 2) hx hb dX8_init_27 (by decide) ?_
  refine lv_icmp_ge (tgt := 35) hx hb dX8_init_28 (by decide) (fun c16 => ?_) (fun c16 => ?_)
  · rw [if_pos c16] at h15
    refine lv_iconst (v := 0) hx hb dX8_init_35 (by decide) ?_
    exact kX8_init_36 C hin fu S10 (some a0) (0 : Int32) _ _ _ h15 hV (hl_sub hl [] rfl)
  · rw [if_neg c16] at h15
    refine lv_iconst (v := 1) hx hb dX8_init_31 (by decide) ?_
    refine lv_goto (tgt := 36) hx hb dX8_init_32 (by decide) ?_
    exact kX8_init_36 C hin fu S10 (some a0) (1 : Int32) _ _ _ h15 hV (hl_sub hl [] rfl)
def fX2_init (fu : Nat) (S : hS) (a0 : Nat) (x1 : Option Nat) (x2 : Option Nat) (x3 : Int32) : Option (Unit × hS) := bn2 (fX8_init fu S a0 x1 x2) fun _ S2 => (pV S2 2 4 (some a0) (.int x3)).bind fun S5 => some ((), S5)
set_option maxHeartbeats 4000000 in
set_option maxRecDepth 100000 in
theorem mX2_init (l : Launch) (D : hD) (fu : Nat) (S : hS) (a0 : Nat) (x1 : Option Nat) (x2 : Option Nat) (x3 : Int32) (z : Unit × hS) (h : fX2_init fu S a0 x1 x2 x3 = some z) : hM l D yX2_init cX2_init 4 none 2 34 0 0 [va_rf (some a0), va_rf x1, va_rf x2, .int x3] S none z.2 := by
  refine h_body [.inr (some a0), .inr x1, .inr x2, .inl x3] RX2 (by decide) rfl (Nat.le_of_ble_eq_true rfl) ?_
  intro p e s m args below meth c C hin ls hV hl
  obtain ⟨-, hx, hb, hml, hown, hr, hlk, hK, hts⟩ := id C
  unfold fX2_init at h
  refine hr_aload_n hx hb dX2_init_0 rfl (hr_at hl 0 rfl) ?_
  refine hr_aload_n hx hb dX2_init_1 rfl (hr_at hl 1 rfl) ?_
  refine hr_aload_n hx hb dX2_init_2 rfl (hr_at hl 2 rfl) ?_
  obtain ⟨r1, S2, g3, h4⟩ := hbn2 h; clear h
  refine h_callI (b := a0) (n := 2) (As := [va_rf x1, va_rf x2]) (rest := []) (st1 := []) (fr := 1) (lo := 12) (mc := 0) (ms := 0) C.1 hK hV wd333 wd429 wd332 wd86 rfl ⟨by decide, by decide, by decide⟩ ⟨(Nat.le_of_ble_eq_true rfl), (Nat.le_of_ble_eq_true rfl)⟩ rfl hl.1 (hW_ok [] (Nat.le_of_ble_eq_true rfl)) dX2_init_3 ⟨(Nat.le_of_ble_eq_true rfl), (Nat.le_of_ble_eq_true rfl)⟩ rfl rfl (mX8_init l D fu S a0 x1 x2 _ g3) (fun H locs hV => ?_)
  refine hr_aload_n hx hb dX2_init_6 rfl (hr_at hl 0 rfl) ?_
  refine lv_iload_n hx hb dX2_init_7 rfl (hi_at hl 3 rfl) ?_
  obtain ⟨S5, g6, h7⟩ := hbind h4; clear h4
  refine h_put hx hb hown hV g6 (fpRX2_7 hts hK) rfl rfl dX2_init_8 (fun H locs hV => ?_)
  exact h_vret hx hb hr hlk hV h7 (Nat.le_of_ble_eq_true rfl) (Nat.le_of_ble_eq_true rfl) dX2_init_11
def fX2_begin (fu : Nat) (S : hS) (a0 : Nat) : Option (Unit × hS) := (gI S 2 4 (some a0)).bind fun v1 => (pV S 2 5 (some a0) (.int v1)).bind fun S4 => (gI S4 2 4 (some a0)).bind fun v7 => (pV S4 2 6 (some a0) (.int v7)).bind fun S10 => some ((), S10)
set_option maxHeartbeats 4000000 in
set_option maxRecDepth 100000 in
theorem mX2_begin (l : Launch) (D : hD) (fu : Nat) (S : hS) (a0 : Nat) (z : Unit × hS) (h : fX2_begin fu S a0 = some z) : hM l D yX2_begin cX2_begin 1 none 0 0 0 0 [va_rf (some a0)] S none z.2 := by
  refine h_body [.inr (some a0)] RX2 (by decide) rfl (Nat.le_of_ble_eq_true rfl) ?_
  intro p e s m args below meth c C hin ls hV hl
  obtain ⟨-, hx, hb, hml, hown, hr, hlk, hK, hts⟩ := id C
  unfold fX2_begin at h
  refine hr_aload_n hx hb dX2_begin_0 rfl (hr_at hl 0 rfl) ?_
  refine hr_aload_n hx hb dX2_begin_1 rfl (hr_at hl 0 rfl) ?_
  obtain ⟨v1, g2, h3⟩ := hbind h; clear h
  refine h_gI hx hb hown hV g2 (flRX2_7 hts hK) dX2_begin_2 ?_
  obtain ⟨S4, g5, h6⟩ := hbind h3; clear h3
  refine h_put hx hb hown hV g5 (fpRX2_13 hts hK) rfl rfl dX2_begin_5 (fun H locs hV => ?_)
  refine hr_aload_n hx hb dX2_begin_8 rfl (hr_at hl 0 rfl) ?_
  refine hr_aload_n hx hb dX2_begin_9 rfl (hr_at hl 0 rfl) ?_
  obtain ⟨v7, g8, h9⟩ := hbind h6; clear h6
  refine h_gI hx hb hown hV g8 (flRX2_7 hts hK) dX2_begin_10 ?_
  obtain ⟨S10, g11, h12⟩ := hbind h9; clear h9
  refine h_put hx hb hown hV g11 (fpRX2_16 hts hK) rfl rfl dX2_begin_13 (fun H locs hV => ?_)
  exact h_vret hx hb hr hlk hV h12 (Nat.le_of_ble_eq_true rfl) (Nat.le_of_ble_eq_true rfl) dX2_begin_16
def fX8_cell (fu : Nat) (S : hS) (a0 : Nat) (x1 : Int32) : Option (Int32 × hS) := (gR4 S 0 (some a0)).bind fun v1 => (gR4 S 1 (some a0)).bind fun v4 => (gI S 1 0 v4).bind fun v7 => (rcv S 0 v1).bind fun b12 => bn2 (fX0_read fu S b12 (v7 + x1)) fun r10 S11 => some (r10, S11)
set_option maxHeartbeats 4000000 in
set_option maxRecDepth 100000 in
theorem mX8_cell (l : Launch) (D : hD) (fu : Nat) (S : hS) (a0 : Nat) (x1 : Int32) (z : Int32 × hS) (h : fX8_cell fu S a0 x1 = some z) : hM l D yX8_cell cX8_cell 2 (some .int) 1 21 0 0 [va_rf (some a0), .int x1] S (some (.int z.1)) z.2 := by
  refine h_body [.inr (some a0), .inl x1] RX8 (by decide) rfl (Nat.le_of_ble_eq_true rfl) ?_
  intro p e s m args below meth c C hin ls hV hl
  obtain ⟨-, hx, hb, hml, hown, hr, hlk, hK, hts⟩ := id C
  unfold fX8_cell at h
  refine hr_aload_n hx hb dX8_cell_0 rfl (hr_at hl 0 rfl) ?_
  obtain ⟨v1, g2, h3⟩ := hbind h; clear h
  refine h_gR4 hx hb hown hV g2 (flRX8_7 hts hK) dX8_cell_1 ?_
  refine hr_aload_n hx hb dX8_cell_4 rfl (hr_at hl 0 rfl) ?_
  obtain ⟨v4, g5, h6⟩ := hbind h3; clear h3
  refine h_gR4 hx hb hown hV g5 (flRX8_13 hts hK) dX8_cell_5 ?_
  obtain ⟨v7, g8, h9⟩ := hbind h6; clear h6
  refine h_gI hx hb hown hV g8 (flRX8_30 hts hK) dX8_cell_8 ?_
  refine lv_iload_n hx hb dX8_cell_11 rfl (hi_at hl 1 rfl) ?_
  refine lv_iadd hx hb dX8_cell_12 ?_
  obtain ⟨b12, g13, h14⟩ := hbind h9; clear h9
  obtain ⟨_, _, e15, q15⟩ := rcv_inv g13
  obtain ⟨r10, S11, g16, h17⟩ := hbn2 h14; clear h14
  refine h_callVN (n := 1) (As := [.int (v7 + x1)]) (rest := []) (st1 := [.int r10]) (fr := 0) (lo := 0) (mc := 0) (ms := 0) C.1 hK hV q15 rfl rfl wd550 (wo547 hK.2) wd549 wd24 wd79 ⟨by decide, by decide, by decide⟩ ⟨(Nat.le_of_ble_eq_true rfl), (Nat.le_of_ble_eq_true rfl)⟩ rfl hl.1 (hW_ok [] (Nat.le_of_ble_eq_true rfl)) dX8_cell_13 ⟨(Nat.le_of_ble_eq_true rfl), (Nat.le_of_ble_eq_true rfl)⟩ rfl (by rw [e15]; rfl) (mX0_read l D fu S b12 (v7 + x1) _ g16) (fun H locs hV => ?_)
  exact h_iret hx hb hr hlk hV h17 (Nat.le_of_ble_eq_true rfl) (Nat.le_of_ble_eq_true rfl) dX8_cell_16
def fX8_swap (fu : Nat) (S : hS) (a0 : Nat) (x1 : Int32) (x2 : Int32) : Option (Unit × hS) := (gR4 S 0 (some a0)).bind fun v1 => (gR4 S 1 (some a0)).bind fun v4 => (gI S 1 0 v4).bind fun v7 => (gR4 S 1 (some a0)).bind fun v10 => (gI S 1 0 v10).bind fun v13 => (rcv S 0 v1).bind fun b18 => bn2 (fX0_swap fu S b18 (v7 + x1) (v13 + x2)) fun _ S17 => some ((), S17)
set_option maxHeartbeats 4000000 in
set_option maxRecDepth 100000 in
theorem mX8_swap (l : Launch) (D : hD) (fu : Nat) (S : hS) (a0 : Nat) (x1 : Int32) (x2 : Int32) (z : Unit × hS) (h : fX8_swap fu S a0 x1 x2 = some z) : hM l D yX8_swap cX8_swap 3 none 1 23 0 0 [va_rf (some a0), .int x1, .int x2] S none z.2 := by
  refine h_body [.inr (some a0), .inl x1, .inl x2] RX8 (by decide) rfl (Nat.le_of_ble_eq_true rfl) ?_
  intro p e s m args below meth c C hin ls hV hl
  obtain ⟨-, hx, hb, hml, hown, hr, hlk, hK, hts⟩ := id C
  unfold fX8_swap at h
  refine hr_aload_n hx hb dX8_swap_0 rfl (hr_at hl 0 rfl) ?_
  obtain ⟨v1, g2, h3⟩ := hbind h; clear h
  refine h_gR4 hx hb hown hV g2 (flRX8_7 hts hK) dX8_swap_1 ?_
  refine hr_aload_n hx hb dX8_swap_4 rfl (hr_at hl 0 rfl) ?_
  obtain ⟨v4, g5, h6⟩ := hbind h3; clear h3
  refine h_gR4 hx hb hown hV g5 (flRX8_13 hts hK) dX8_swap_5 ?_
  obtain ⟨v7, g8, h9⟩ := hbind h6; clear h6
  refine h_gI hx hb hown hV g8 (flRX8_30 hts hK) dX8_swap_8 ?_
  refine lv_iload_n hx hb dX8_swap_11 rfl (hi_at hl 1 rfl) ?_
  refine lv_iadd hx hb dX8_swap_12 ?_
  refine hr_aload_n hx hb dX8_swap_13 rfl (hr_at hl 0 rfl) ?_
  obtain ⟨v10, g11, h12⟩ := hbind h9; clear h9
  refine h_gR4 hx hb hown hV g11 (flRX8_13 hts hK) dX8_swap_14 ?_
  obtain ⟨v13, g14, h15⟩ := hbind h12; clear h12
  refine h_gI hx hb hown hV g14 (flRX8_30 hts hK) dX8_swap_17 ?_
  refine lv_iload_n hx hb dX8_swap_20 rfl (hi_at hl 2 rfl) ?_
  refine lv_iadd hx hb dX8_swap_21 ?_
  obtain ⟨b18, g19, h20⟩ := hbind h15; clear h15
  obtain ⟨_, _, e21, q21⟩ := rcv_inv g19
  obtain ⟨r16, S17, g22, h23⟩ := hbn2 h20; clear h20
  refine h_callVN (n := 2) (As := [.int (v7 + x1), .int (v13 + x2)]) (rest := []) (st1 := []) (fr := 0) (lo := 0) (mc := 0) (ms := 0) C.1 hK hV q21 rfl rfl wd510 (wo507 hK.2) wd509 wd18 wd79 ⟨by decide, by decide, by decide⟩ ⟨(Nat.le_of_ble_eq_true rfl), (Nat.le_of_ble_eq_true rfl)⟩ rfl hl.1 (hW_ok [] (Nat.le_of_ble_eq_true rfl)) dX8_swap_22 ⟨(Nat.le_of_ble_eq_true rfl), (Nat.le_of_ble_eq_true rfl)⟩ rfl (by rw [e21]; rfl) (mX0_swap l D fu S b18 (v7 + x1) (v13 + x2) _ g22) (fun H locs hV => ?_)
  exact h_vret hx hb hr hlk hV h23 (Nat.le_of_ble_eq_true rfl) (Nat.le_of_ble_eq_true rfl) dX8_swap_25
def fX2_goOnWithNextNumber_57 (fu : Nat) (S : hS) (a0 : Nat) : Option (Unit × hS) := (gI S 2 5 (some a0)).bind fun v1 => (pV S 2 6 (some a0) (.int v1)).bind fun S4 => some ((), S4)
set_option maxHeartbeats 4000000 in
set_option maxRecDepth 100000 in
theorem kX2_goOnWithNextNumber_57 {p : Program} {l : Launch} {e : Env} {s : State} {m : MethodId} {args : Array Value} {below : List Frame} {meth : Method} {c : Code} {D : hD} {S0 : hS} {z : Unit × hS} (C : hCx p m c cX2_goOnWithNextNumber 1 s args RX2 meth none D) (fu : Nat) : ∀ (S : hS) (a0 : Nat) (H : Heap) (locs : List Loc) (ls : Array Slot), fX2_goOnWithNextNumber_57 fu S a0 = some z → h_V D (h_A S0) s S H locs → hl_has ls 1 [(0, .inr (some a0))] → W p l e { frames := 0, cells := 0, slots := 0, locals := 0 } s m args below meth c H locs 0 0 (MQ below (h_Q D (h_A S0) none z.2) args s 0 0 (h_A S0)) (F0 m 57 ls []) := by
  obtain ⟨-, hx, hb, hml, hown, hr, hlk, hK, hts⟩ := id C
  intro S a0 _ _ _ h hV hl
  unfold fX2_goOnWithNextNumber_57 at h
  refine hr_aload_n hx hb dX2_goOnWithNextNumber_57 rfl (hr_at hl 0 rfl) ?_
  refine hr_aload_n hx hb dX2_goOnWithNextNumber_58 rfl (hr_at hl 0 rfl) ?_
  obtain ⟨v1, g2, h3⟩ := hbind h; clear h
  refine h_gI hx hb hown hV g2 (flRX2_13 hts hK) dX2_goOnWithNextNumber_59 ?_
  obtain ⟨S4, g5, h6⟩ := hbind h3; clear h3
  refine h_put hx hb hown hV g5 (fpRX2_16 hts hK) rfl rfl dX2_goOnWithNextNumber_62 (fun H locs hV => ?_)
  exact h_vret hx hb hr hlk hV h6 (Nat.le_of_ble_eq_true rfl) (Nat.le_of_ble_eq_true rfl) dX2_goOnWithNextNumber_65
def fX2_goOnWithNextNumber_54 (fu : Nat) (S : hS) (a0 : Nat) (t0 : Option Nat) (t1 : Int32) : Option (Unit × hS) := (zz t1).bind fun _ => (pV S 2 3 t0 (.int t1)).bind fun S1 => fX2_goOnWithNextNumber_57 fu S1 a0
set_option maxHeartbeats 4000000 in
set_option maxRecDepth 100000 in
theorem kX2_goOnWithNextNumber_54 {p : Program} {l : Launch} {e : Env} {s : State} {m : MethodId} {args : Array Value} {below : List Frame} {meth : Method} {c : Code} {D : hD} {S0 : hS} {z : Unit × hS} (C : hCx p m c cX2_goOnWithNextNumber 1 s args RX2 meth none D) (fu : Nat) : ∀ (S : hS) (a0 : Nat) (t0 : Option Nat) (t1 : Int32) (H : Heap) (locs : List Loc) (ls : Array Slot), fX2_goOnWithNextNumber_54 fu S a0 t0 t1 = some z → h_V D (h_A S0) s S H locs → hl_has ls 1 [(0, .inr (some a0))] → W p l e { frames := 0, cells := 0, slots := 0, locals := 0 } s m args below meth c H locs 0 0 (MQ below (h_Q D (h_A S0) none z.2) args s 0 0 (h_A S0)) (F0 m 54 ls [.int t1, va_rf t0]) := by
  obtain ⟨-, hx, hb, hml, hown, hr, hlk, hK, hts⟩ := id C
  intro S a0 t0 t1 _ _ _ h hV hl
  unfold fX2_goOnWithNextNumber_54 at h
  obtain ⟨v2, g3, h4⟩ := hbind h; clear h
  obtain ⟨S1, g5, h6⟩ := hbind h4; clear h4
  refine h_put hx hb hown hV g5 (fpRX2_34 hts hK) (zz_nar (zz_inv g3).2) (zz_fit (zz_inv g3).2) dX2_goOnWithNextNumber_54 (fun H locs hV => ?_)
  exact kX2_goOnWithNextNumber_57 C fu S1 a0 _ _ _ h6 hV (hl_sub hl [0] rfl)
def fX2_goOnWithNextNumber (fu : Nat) (S : hS) (a0 : Nat) : Option (Unit × hS) := (gI S 2 5 (some a0)).bind fun v1 => (pV S 2 5 (some a0) (.int (v1 + (1 : Int32)))).bind fun S4 => (gI S4 2 5 (some a0)).bind fun v7 => (gI S4 2 2 (some a0)).bind fun v10 => if v7 < v10 then (fX2_goOnWithNextNumber_57 fu S4 a0) else ((gI S4 2 4 (some a0)).bind fun v14 =>
(pV S4 2 4 (some a0) (.int ((v14 - (1 : Int32)) / (3 : Int32)))).bind fun S17 =>
(gI S17 2 4 (some a0)).bind fun v20 =>
(pV S17 2 5 (some a0) (.int v20)).bind fun S23 =>
(gI S23 2 4 (some a0)).bind fun v26 =>
if 0 < v26 then (fX2_goOnWithNextNumber_54 fu S23 a0 (some a0) (0 : Int32)) else (fX2_goOnWithNextNumber_54 fu S23 a0 (some a0) (1 : Int32)))
set_option maxHeartbeats 4000000 in
set_option maxRecDepth 100000 in
theorem mX2_goOnWithNextNumber (l : Launch) (D : hD) (fu : Nat) (S : hS) (a0 : Nat) (z : Unit × hS) (h : fX2_goOnWithNextNumber fu S a0 = some z) : hM l D yX2_goOnWithNextNumber cX2_goOnWithNextNumber 1 none 0 0 0 0 [va_rf (some a0)] S none z.2 := by
  refine h_body [.inr (some a0)] RX2 (by decide) rfl (Nat.le_of_ble_eq_true rfl) ?_
  intro p e s m args below meth c C hin ls hV hl
  obtain ⟨-, hx, hb, hml, hown, hr, hlk, hK, hts⟩ := id C
  unfold fX2_goOnWithNextNumber at h
  refine hr_aload_n hx hb dX2_goOnWithNextNumber_0 rfl (hr_at hl 0 rfl) ?_
  refine hr_dup hx hb dX2_goOnWithNextNumber_1 ?_
  obtain ⟨v1, g2, h3⟩ := hbind h; clear h
  refine h_gI hx hb hown hV g2 (flRX2_13 hts hK) dX2_goOnWithNextNumber_2 ?_
  refine lv_iconst (v := 1) hx hb dX2_goOnWithNextNumber_5 (by decide) ?_
  refine lv_iadd hx hb dX2_goOnWithNextNumber_6 ?_
  obtain ⟨S4, g5, h6⟩ := hbind h3; clear h3
  refine h_put hx hb hown hV g5 (fpRX2_13 hts hK) rfl rfl dX2_goOnWithNextNumber_7 (fun H locs hV => ?_)
  refine hr_aload_n hx hb dX2_goOnWithNextNumber_10 rfl (hr_at hl 0 rfl) ?_
  obtain ⟨v7, g8, h9⟩ := hbind h6; clear h6
  refine h_gI hx hb hown hV g8 (flRX2_13 hts hK) dX2_goOnWithNextNumber_11 ?_
  refine hr_aload_n hx hb dX2_goOnWithNextNumber_14 rfl (hr_at hl 0 rfl) ?_
  obtain ⟨v10, g11, h12⟩ := hbind h9; clear h9
  refine h_gI hx hb hown hV g11 (flRX2_31 hts hK) dX2_goOnWithNextNumber_15 ?_
  refine lv_icmp_lt (tgt := 57) hx hb dX2_goOnWithNextNumber_18 (by decide) (fun c13 => ?_) (fun c13 => ?_)
  · rw [if_pos c13] at h12
    exact kX2_goOnWithNextNumber_57 C fu S4 a0 _ _ _ h12 hV (hl_sub hl [0] rfl)
  · rw [if_neg c13] at h12
    refine hr_aload_n hx hb dX2_goOnWithNextNumber_21 rfl (hr_at hl 0 rfl) ?_
    refine hr_aload_n hx hb dX2_goOnWithNextNumber_22 rfl (hr_at hl 0 rfl) ?_
    obtain ⟨v14, g15, h16⟩ := hbind h12; clear h12
    refine h_gI hx hb hown hV g15 (flRX2_7 hts hK) dX2_goOnWithNextNumber_23 ?_
    refine lv_iconst (v := 1) hx hb dX2_goOnWithNextNumber_26 (by decide) ?_
    refine lv_isub hx hb dX2_goOnWithNextNumber_27 ?_
    refine lv_iconst (v := 3) hx hb dX2_goOnWithNextNumber_28 (by decide) ?_
    refine lv_idiv hx hb dX2_goOnWithNextNumber_29 (by decide) ?_
    obtain ⟨S17, g18, h19⟩ := hbind h16; clear h16
    refine h_put hx hb hown hV g18 (fpRX2_7 hts hK) rfl rfl dX2_goOnWithNextNumber_30 (fun H locs hV => ?_)
    refine hr_aload_n hx hb dX2_goOnWithNextNumber_33 rfl (hr_at hl 0 rfl) ?_
    refine hr_aload_n hx hb dX2_goOnWithNextNumber_34 rfl (hr_at hl 0 rfl) ?_
    obtain ⟨v20, g21, h22⟩ := hbind h19; clear h19
    refine h_gI hx hb hown hV g21 (flRX2_7 hts hK) dX2_goOnWithNextNumber_35 ?_
    obtain ⟨S23, g24, h25⟩ := hbind h22; clear h22
    refine h_put hx hb hown hV g24 (fpRX2_13 hts hK) rfl rfl dX2_goOnWithNextNumber_38 (fun H locs hV => ?_)
    refine hr_aload_n hx hb dX2_goOnWithNextNumber_41 rfl (hr_at hl 0 rfl) ?_
    refine hr_aload_n hx hb dX2_goOnWithNextNumber_42 rfl (hr_at hl 0 rfl) ?_
    obtain ⟨v26, g27, h28⟩ := hbind h25; clear h25
    refine h_gI hx hb hown hV g27 (flRX2_7 hts hK) dX2_goOnWithNextNumber_43 ?_
    refine lv_if_gt (tgt := 53) hx hb dX2_goOnWithNextNumber_46 (by decide) (fun c29 => ?_) (fun c29 => ?_)
    · rw [if_pos c29] at h28
      refine lv_iconst (v := 0) hx hb dX2_goOnWithNextNumber_53 (by decide) ?_
      exact kX2_goOnWithNextNumber_54 C fu S23 a0 (some a0) (0 : Int32) _ _ _ h28 hV (hl_sub hl [0] rfl)
    · rw [if_neg c29] at h28
      refine lv_iconst (v := 1) hx hb dX2_goOnWithNextNumber_49 (by decide) ?_
      refine lv_goto (tgt := 54) hx hb dX2_goOnWithNextNumber_50 (by decide) ?_
      exact kX2_goOnWithNextNumber_54 C fu S23 a0 (some a0) (1 : Int32) _ _ _ h28 hV (hl_sub hl [0] rfl)
def fX2_compareNext_79 (fu : Nat) (S : hS) (a0 : Nat) : Option (Unit × hS) := (rcv S 2 (some a0)).bind fun b3 => bn2 (fX2_goOnWithNextNumber fu S b3) fun _ S2 => some ((), S2)
set_option maxHeartbeats 4000000 in
set_option maxRecDepth 100000 in
theorem kX2_compareNext_79 {p : Program} {l : Launch} {e : Env} {s : State} {m : MethodId} {args : Array Value} {below : List Frame} {meth : Method} {c : Code} {D : hD} {S0 : hS} {z : Unit × hS} (C : hCx p m c cX2_compareNext 2 s args RX2 meth none D) (fu : Nat) : ∀ (S : hS) (a0 : Nat) (H : Heap) (locs : List Loc) (ls : Array Slot), fX2_compareNext_79 fu S a0 = some z → h_V D (h_A S0) s S H locs → hl_has ls 2 [(0, .inr (some a0))] → W p l e { frames := 2, cells := 0, slots := 0, locals := 45 } s m args below meth c H locs 0 0 (MQ below (h_Q D (h_A S0) none z.2) args s 0 0 (h_A S0)) (F0 m 79 ls []) := by
  obtain ⟨-, hx, hb, hml, hown, hr, hlk, hK, hts⟩ := id C
  intro S a0 _ _ _ h hV hl
  unfold fX2_compareNext_79 at h
  refine hr_aload_n hx hb dX2_compareNext_79 rfl (hr_at hl 0 rfl) ?_
  obtain ⟨b3, g4, h5⟩ := hbind h; clear h
  obtain ⟨_, _, e6, q6⟩ := rcv_inv g4
  obtain ⟨r1, S2, g7, h8⟩ := hbn2 h5; clear h5
  refine h_callV (n := 0) (As := []) (rest := []) (st1 := []) (fr := 0) (lo := 0) (mc := 0) (ms := 0) C.1 hK hV q6 rfl rfl wd557 wd554 wd556 wd25 wd89 ⟨by decide, by decide, by decide⟩ ⟨(Nat.le_of_ble_eq_true rfl), (Nat.le_of_ble_eq_true rfl)⟩ rfl hl.1 (hW_ok [] (Nat.le_of_ble_eq_true rfl)) dX2_compareNext_80 ⟨(Nat.le_of_ble_eq_true rfl), (Nat.le_of_ble_eq_true rfl)⟩ rfl (by rw [e6]; rfl) (mX2_goOnWithNextNumber l D fu S b3 _ g7) (fun H locs hV => ?_)
  exact h_vret hx hb hr hlk hV h8 (Nat.le_of_ble_eq_true rfl) (Nat.le_of_ble_eq_true rfl) dX2_compareNext_83
def fX2_compareNext_64 (fu : Nat) (S : hS) (a0 : Nat) (x1 : Int32) : Option (Unit × hS) := if x1 = 0 then (fX2_compareNext_79 fu S a0) else ((gI S 2 6 (some a0)).bind fun v2 =>
(gI S 2 4 (some a0)).bind fun v5 =>
if v5 ≤ v2 then (some ((), S)) else (fX2_compareNext_79 fu S a0))
set_option maxHeartbeats 4000000 in
set_option maxRecDepth 100000 in
theorem kX2_compareNext_64 {p : Program} {l : Launch} {e : Env} {s : State} {m : MethodId} {args : Array Value} {below : List Frame} {meth : Method} {c : Code} {D : hD} {S0 : hS} {z : Unit × hS} (C : hCx p m c cX2_compareNext 2 s args RX2 meth none D) (fu : Nat) : ∀ (S : hS) (a0 : Nat) (x1 : Int32) (H : Heap) (locs : List Loc) (ls : Array Slot), fX2_compareNext_64 fu S a0 x1 = some z → h_V D (h_A S0) s S H locs → hl_has ls 2 [(0, .inr (some a0)), (1, .inl x1)] → W p l e { frames := 2, cells := 0, slots := 0, locals := 45 } s m args below meth c H locs 0 0 (MQ below (h_Q D (h_A S0) none z.2) args s 0 0 (h_A S0)) (F0 m 64 ls []) := by
  obtain ⟨-, hx, hb, hml, hown, hr, hlk, hK, hts⟩ := id C
  intro S a0 x1 _ _ _ h hV hl
  unfold fX2_compareNext_64 at h
  refine lv_iload_n hx hb dX2_compareNext_64 rfl (hi_at hl 1 rfl) ?_
  refine lv_if_eq (tgt := 79) hx hb dX2_compareNext_65 (by decide) (fun c1 => ?_) (fun c1 => ?_)
  · rw [if_pos c1] at h
    exact kX2_compareNext_79 C fu S a0 _ _ _ h hV (hl_sub hl [0] rfl)
  · rw [if_neg c1] at h
    refine hr_aload_n hx hb dX2_compareNext_68 rfl (hr_at hl 0 rfl) ?_
    obtain ⟨v2, g3, h4⟩ := hbind h; clear h
    refine h_gI hx hb hown hV g3 (flRX2_16 hts hK) dX2_compareNext_69 ?_
    refine hr_aload_n hx hb dX2_compareNext_72 rfl (hr_at hl 0 rfl) ?_
    obtain ⟨v5, g6, h7⟩ := hbind h4; clear h4
    refine h_gI hx hb hown hV g6 (flRX2_7 hts hK) dX2_compareNext_73 ?_
    refine lv_icmp_ge (tgt := 83) hx hb dX2_compareNext_76 (by decide) (fun c8 => ?_) (fun c8 => ?_)
    · rw [if_pos c8] at h7
      exact h_vret hx hb hr hlk hV h7 (Nat.le_of_ble_eq_true rfl) (Nat.le_of_ble_eq_true rfl) dX2_compareNext_83
    · rw [if_neg c8] at h7
      exact kX2_compareNext_79 C fu S a0 _ _ _ h7 hV (hl_sub hl [0] rfl)
def fX2_compareNext_29 (fu : Nat) (S : hS) (a0 : Nat) (t0 : Int32) : Option (Unit × hS) := if t0 = 0 then (fX2_compareNext_64 fu S a0 t0) else ((gI S 2 6 (some a0)).bind fun v2 =>
(gI S 2 4 (some a0)).bind fun v5 =>
(gI S 2 6 (some a0)).bind fun v8 =>
(rcv S 2 (some a0)).bind fun b13 =>
bn2 (fX8_swap fu S b13 (v2 - v5) v8) fun _ S12 =>
(gI S12 2 6 (some a0)).bind fun v19 =>
(gI S12 2 4 (some a0)).bind fun v22 =>
(pV S12 2 6 (some a0) (.int (v19 - v22))).bind fun S25 =>
fX2_compareNext_64 fu S25 a0 t0)
set_option maxHeartbeats 4000000 in
set_option maxRecDepth 100000 in
theorem kX2_compareNext_29 {p : Program} {l : Launch} {e : Env} {s : State} {m : MethodId} {args : Array Value} {below : List Frame} {meth : Method} {c : Code} {D : hD} {S0 : hS} {z : Unit × hS} (C : hCx p m c cX2_compareNext 2 s args RX2 meth none D) (fu : Nat) : ∀ (S : hS) (a0 : Nat) (t0 : Int32) (H : Heap) (locs : List Loc) (ls : Array Slot), fX2_compareNext_29 fu S a0 t0 = some z → h_V D (h_A S0) s S H locs → hl_has ls 2 [(0, .inr (some a0))] → W p l e { frames := 2, cells := 0, slots := 0, locals := 45 } s m args below meth c H locs 0 0 (MQ below (h_Q D (h_A S0) none z.2) args s 0 0 (h_A S0)) (F0 m 29 ls [.int t0]) := by
  obtain ⟨-, hx, hb, hml, hown, hr, hlk, hK, hts⟩ := id C
  intro S a0 t0 _ _ _ h hV hl
  unfold fX2_compareNext_29 at h
  refine h_istore_n (tl' := [(1, .inl t0), (0, .inr (some a0))]) hx hb dX2_compareNext_29 rfl hl (by decide) rfl (fun ls hl => ?_)
  refine lv_iload_n hx hb dX2_compareNext_30 rfl (hi_at hl 0 rfl) ?_
  refine lv_if_eq (tgt := 64) hx hb dX2_compareNext_31 (by decide) (fun c1 => ?_) (fun c1 => ?_)
  · rw [if_pos c1] at h
    exact kX2_compareNext_64 C fu S a0 t0 _ _ _ h hV (hl_sub hl [1, 0] rfl)
  · rw [if_neg c1] at h
    refine hr_aload_n hx hb dX2_compareNext_34 rfl (hr_at hl 1 rfl) ?_
    refine hr_aload_n hx hb dX2_compareNext_35 rfl (hr_at hl 1 rfl) ?_
    obtain ⟨v2, g3, h4⟩ := hbind h; clear h
    refine h_gI hx hb hown hV g3 (flRX2_16 hts hK) dX2_compareNext_36 ?_
    refine hr_aload_n hx hb dX2_compareNext_39 rfl (hr_at hl 1 rfl) ?_
    obtain ⟨v5, g6, h7⟩ := hbind h4; clear h4
    refine h_gI hx hb hown hV g6 (flRX2_7 hts hK) dX2_compareNext_40 ?_
    refine lv_isub hx hb dX2_compareNext_43 ?_
    refine hr_aload_n hx hb dX2_compareNext_44 rfl (hr_at hl 1 rfl) ?_
    obtain ⟨v8, g9, h10⟩ := hbind h7; clear h7
    refine h_gI hx hb hown hV g9 (flRX2_16 hts hK) dX2_compareNext_45 ?_
    obtain ⟨b13, g14, h15⟩ := hbind h10; clear h10
    obtain ⟨_, _, e16, q16⟩ := rcv_inv g14
    obtain ⟨r11, S12, g17, h18⟩ := hbn2 h15; clear h15
    refine h_callU (owner := RX8) (x := ⟨"SortKernel$GapSorting", "swap", "(II)V"⟩) (n := 2) (As := [.int (v2 - v5), .int v8]) (rest := []) (st1 := []) (fr := 1) (lo := 23) (mc := 0) (ms := 0) C.1 hK hV q16 rfl wd506 wd551 wd505 wd553 wd86 wd552 (va_Decl.of (hts _ wd505) (hts _ wd506)) ⟨by decide, by decide⟩ ⟨by decide, by decide, by decide⟩ ⟨(Nat.le_of_ble_eq_true rfl), (Nat.le_of_ble_eq_true rfl)⟩ rfl hl.1 (hW_ok [] (Nat.le_of_ble_eq_true rfl)) dX2_compareNext_48 ⟨(Nat.le_of_ble_eq_true rfl), (Nat.le_of_ble_eq_true rfl)⟩ rfl (by rw [e16]; rfl) (mX8_swap l D fu S b13 (v2 - v5) v8 _ g17) (fun H locs hV => ?_)
    refine hr_aload_n hx hb dX2_compareNext_51 rfl (hr_at hl 1 rfl) ?_
    refine hr_dup hx hb dX2_compareNext_52 ?_
    obtain ⟨v19, g20, h21⟩ := hbind h18; clear h18
    refine h_gI hx hb hown hV g20 (flRX2_16 hts hK) dX2_compareNext_53 ?_
    refine hr_aload_n hx hb dX2_compareNext_56 rfl (hr_at hl 1 rfl) ?_
    obtain ⟨v22, g23, h24⟩ := hbind h21; clear h21
    refine h_gI hx hb hown hV g23 (flRX2_7 hts hK) dX2_compareNext_57 ?_
    refine lv_isub hx hb dX2_compareNext_60 ?_
    obtain ⟨S25, g26, h27⟩ := hbind h24; clear h24
    refine h_put hx hb hown hV g26 (fpRX2_16 hts hK) rfl rfl dX2_compareNext_61 (fun H locs hV => ?_)
    exact kX2_compareNext_64 C fu S25 a0 t0 _ _ _ h27 hV (hl_sub hl [1, 0] rfl)
def fX2_compareNext (fu : Nat) (S : hS) (a0 : Nat) : Option (Unit × hS) := (gI S 2 6 (some a0)).bind fun v1 => (gI S 2 4 (some a0)).bind fun v4 => (rcv S 2 (some a0)).bind fun b9 => bn2 (fX8_cell fu S b9 (v1 - v4)) fun r7 S8 => (gI S8 2 6 (some a0)).bind fun v15 => (rcv S8 2 (some a0)).bind fun b20 => bn2 (fX8_cell fu S8 b20 v15) fun r18 S19 => if r7 ≤ r18 then (fX2_compareNext_29 fu S19 a0 (0 : Int32)) else (fX2_compareNext_29 fu S19 a0 (1 : Int32))
set_option maxHeartbeats 4000000 in
set_option maxRecDepth 100000 in
theorem mX2_compareNext (l : Launch) (D : hD) (fu : Nat) (S : hS) (a0 : Nat) (z : Unit × hS) (h : fX2_compareNext fu S a0 = some z) : hM l D yX2_compareNext cX2_compareNext 2 none 2 45 0 0 [va_rf (some a0)] S none z.2 := by
  refine h_body [.inr (some a0)] RX2 (by decide) rfl (Nat.le_of_ble_eq_true rfl) ?_
  intro p e s m args below meth c C hin ls hV hl
  obtain ⟨-, hx, hb, hml, hown, hr, hlk, hK, hts⟩ := id C
  unfold fX2_compareNext at h
  refine hr_aload_n hx hb dX2_compareNext_0 rfl (hr_at hl 0 rfl) ?_
  refine hr_aload_n hx hb dX2_compareNext_1 rfl (hr_at hl 0 rfl) ?_
  obtain ⟨v1, g2, h3⟩ := hbind h; clear h
  refine h_gI hx hb hown hV g2 (flRX2_16 hts hK) dX2_compareNext_2 ?_
  refine hr_aload_n hx hb dX2_compareNext_5 rfl (hr_at hl 0 rfl) ?_
  obtain ⟨v4, g5, h6⟩ := hbind h3; clear h3
  refine h_gI hx hb hown hV g5 (flRX2_7 hts hK) dX2_compareNext_6 ?_
  refine lv_isub hx hb dX2_compareNext_9 ?_
  obtain ⟨b9, g10, h11⟩ := hbind h6; clear h6
  obtain ⟨_, _, e12, q12⟩ := rcv_inv g10
  obtain ⟨r7, S8, g13, h14⟩ := hbn2 h11; clear h11
  refine h_callU (owner := RX8) (x := ⟨"SortKernel$GapSorting", "cell", "(I)I"⟩) (n := 1) (As := [.int (v1 - v4)]) (rest := []) (st1 := [.int r7]) (fr := 1) (lo := 21) (mc := 0) (ms := 0) C.1 hK hV q12 rfl wd546 wd541 wd545 wd544 wd86 wd542 (va_Decl.of (hts _ wd545) (hts _ wd546)) ⟨by decide, by decide⟩ ⟨by decide, by decide, by decide⟩ ⟨(Nat.le_of_ble_eq_true rfl), (Nat.le_of_ble_eq_true rfl)⟩ rfl hl.1 (hW_ok [] (Nat.le_of_ble_eq_true rfl)) dX2_compareNext_10 ⟨(Nat.le_of_ble_eq_true rfl), (Nat.le_of_ble_eq_true rfl)⟩ rfl (by rw [e12]; rfl) (mX8_cell l D fu S b9 (v1 - v4) _ g13) (fun H locs hV => ?_)
  refine hr_aload_n hx hb dX2_compareNext_13 rfl (hr_at hl 0 rfl) ?_
  refine hr_aload_n hx hb dX2_compareNext_14 rfl (hr_at hl 0 rfl) ?_
  obtain ⟨v15, g16, h17⟩ := hbind h14; clear h14
  refine h_gI hx hb hown hV g16 (flRX2_16 hts hK) dX2_compareNext_15 ?_
  obtain ⟨b20, g21, h22⟩ := hbind h17; clear h17
  obtain ⟨_, _, e23, q23⟩ := rcv_inv g21
  obtain ⟨r18, S19, g24, h25⟩ := hbn2 h22; clear h22
  refine h_callU (owner := RX8) (x := ⟨"SortKernel$GapSorting", "cell", "(I)I"⟩) (n := 1) (As := [.int v15]) (rest := [.int r7]) (st1 := [.int r18, .int r7]) (fr := 1) (lo := 21) (mc := 0) (ms := 0) C.1 hK hV q23 rfl wd546 wd541 wd545 wd544 wd86 wd542 (va_Decl.of (hts _ wd545) (hts _ wd546)) ⟨by decide, by decide⟩ ⟨by decide, by decide, by decide⟩ ⟨(Nat.le_of_ble_eq_true rfl), (Nat.le_of_ble_eq_true rfl)⟩ rfl hl.1 (hW_ok [.inl r7] (Nat.le_of_ble_eq_true rfl)) dX2_compareNext_18 ⟨(Nat.le_of_ble_eq_true rfl), (Nat.le_of_ble_eq_true rfl)⟩ rfl (by rw [e23]; rfl) (mX8_cell l D fu S8 b20 v15 _ g24) (fun H locs hV => ?_)
  refine lv_icmp_le (tgt := 28) hx hb dX2_compareNext_21 (by decide) (fun c26 => ?_) (fun c26 => ?_)
  · rw [if_pos c26] at h25
    refine lv_iconst (v := 0) hx hb dX2_compareNext_28 (by decide) ?_
    exact kX2_compareNext_29 C fu S19 a0 (0 : Int32) _ _ _ h25 hV (hl_sub hl [0] rfl)
  · rw [if_neg c26] at h25
    refine lv_iconst (v := 1) hx hb dX2_compareNext_24 (by decide) ?_
    refine lv_goto (tgt := 29) hx hb dX2_compareNext_25 (by decide) ?_
    exact kX2_compareNext_29 C fu S19 a0 (1 : Int32) _ _ _ h25 hV (hl_sub hl [0] rfl)
