def fX9_find (fu : Nat) (S : hS) (a0 : Nat) (x1 : Int32) : Option (Option Nat × hS) := if x1 < 0 then (some (none, S)) else ((gR S 8 1 (some a0)).bind fun v2 =>
(aL S 12 v2).bind fun v5 =>
if v5 ≤ x1 then (some (none, S)) else ((gR S 8 1 (some a0)).bind fun v9 =>
(aR S v9 x1).bind fun v12 =>
some (v12, S)))
set_option maxHeartbeats 4000000 in
set_option maxRecDepth 100000 in
theorem mX9_find (l : Launch) (D : hD) (fu : Nat) (S : hS) (a0 : Nat) (x1 : Int32) (z : Option Nat × hS) (h : fX9_find fu S a0 x1 = some z) : hM l D yX9_find cX9_find 2 (some (.object "SortKernel$Job")) 0 0 0 0 [va_rf (some a0), .int x1] S (some (va_rf z.1)) z.2 := by
  refine h_body [.inr (some a0), .inl x1] RX9 (by decide) rfl (Nat.le_of_ble_eq_true rfl) ?_
  intro p e s m args below meth c C hin ls hV hl
  obtain ⟨-, hx, hb, hml, hown, hr, hlk, hK, hts⟩ := id C
  unfold fX9_find at h
  refine lv_iload_n hx hb dX9_find_0 rfl (hi_at hl 1 rfl) ?_
  refine lv_if_lt (tgt := 22) hx hb dX9_find_1 (by decide) (fun c1 => ?_) (fun c1 => ?_)
  · rw [if_pos c1] at h
    refine h_null hx hb dX9_find_22 ?_
    exact h_aret hx hb hr hlk hV h (Nat.le_of_ble_eq_true rfl) (Nat.le_of_ble_eq_true rfl) dX9_find_23
  · rw [if_neg c1] at h
    refine lv_iload_n hx hb dX9_find_4 rfl (hi_at hl 1 rfl) ?_
    refine hr_aload_n hx hb dX9_find_5 rfl (hr_at hl 0 rfl) ?_
    obtain ⟨v2, g3, h4⟩ := hbind h; clear h
    refine h_gR hx hb hown hV g3 (flRX9_24 hts hK) dX9_find_6 ?_
    obtain ⟨v5, g6, h7⟩ := hbind h4; clear h4
    refine h_alen hx hb hK hV (by decide) g6 dX9_find_9 ?_
    refine lv_icmp_ge (tgt := 22) hx hb dX9_find_10 (by decide) (fun c8 => ?_) (fun c8 => ?_)
    · rw [if_pos c8] at h7
      refine h_null hx hb dX9_find_22 ?_
      exact h_aret hx hb hr hlk hV h7 (Nat.le_of_ble_eq_true rfl) (Nat.le_of_ble_eq_true rfl) dX9_find_23
    · rw [if_neg c8] at h7
      refine hr_aload_n hx hb dX9_find_13 rfl (hr_at hl 0 rfl) ?_
      obtain ⟨v9, g10, h11⟩ := hbind h7; clear h7
      refine h_gR hx hb hown hV g10 (flRX9_24 hts hK) dX9_find_14 ?_
      refine lv_iload_n hx hb dX9_find_17 rfl (hi_at hl 1 rfl) ?_
      obtain ⟨v12, g13, h14⟩ := hbind h11; clear h11
      refine h_aald hx hb hK hV g13 dX9_find_18 ?_
      refine lv_goto (tgt := 23) hx hb dX9_find_19 (by decide) ?_
      exact h_aret hx hb hr hlk hV h14 (Nat.le_of_ble_eq_true rfl) (Nat.le_of_ble_eq_true rfl) dX9_find_23
def fX9_put (fu : Nat) (S : hS) (a0 : Nat) (x1 : Int32) (x2 : Int32) (x3 : Int32) : Option (Int32 × hS) := (rcv S 8 (some a0)).bind fun b3 => bn2 (fX9_find fu S b3 x1) fun r1 S2 => if r1 = none then (some ((-1 : Int32), S2)) else ((gI S2 4 5 r1).bind fun v10 =>
if v10 = (1 : Int32) then ((rcv S2 4 r1).bind fun b16 =>
bn2 (fX4_hasNumber fu S2 b16 x2) fun r14 S15 =>
if r14 = 0 then (some ((-2 : Int32), S15)) else ((gR S15 8 0 (some a0)).bind fun v23 =>
(gR S15 4 2 r1).bind fun v26 =>
(gI S15 1 0 v26).bind fun v29 =>
(rcv S15 0 v23).bind fun b34 =>
bn2 (fX0_write fu S15 b34 (v29 + x2) x3) fun _ S33 =>
some ((0 : Int32), S33))) else (some ((-3 : Int32), S2)))
set_option maxHeartbeats 4000000 in
set_option maxRecDepth 100000 in
theorem mX9_put (l : Launch) (D : hD) (fu : Nat) (S : hS) (a0 : Nat) (x1 : Int32) (x2 : Int32) (x3 : Int32) (z : Int32 × hS) (h : fX9_put fu S a0 x1 x2 x3 = some z) : hM l D yX9_put cX9_put 5 (some .int) 1 22 0 0 [va_rf (some a0), .int x1, .int x2, .int x3] S (some (.int z.1)) z.2 := by
  refine h_body [.inr (some a0), .inl x1, .inl x2, .inl x3] RX9 (by decide) rfl (Nat.le_of_ble_eq_true rfl) ?_
  intro p e s m args below meth c C hin ls hV hl
  obtain ⟨-, hx, hb, hml, hown, hr, hlk, hK, hts⟩ := id C
  unfold fX9_put at h
  refine hr_aload_n hx hb dX9_put_0 rfl (hr_at hl 0 rfl) ?_
  refine lv_iload_n hx hb dX9_put_1 rfl (hi_at hl 1 rfl) ?_
  obtain ⟨b3, g4, h5⟩ := hbind h; clear h
  obtain ⟨_, _, e6, q6⟩ := rcv_inv g4
  obtain ⟨r1, S2, g7, h8⟩ := hbn2 h5; clear h5
  refine h_callV (n := 1) (As := [.int x1]) (rest := []) (st1 := [va_rf r1]) (fr := 0) (lo := 0) (mc := 0) (ms := 0) C.1 hK hV q6 rfl rfl wd293 wd290 wd292 wd9 wd78 ⟨by decide, by decide, by decide⟩ ⟨(Nat.le_of_ble_eq_true rfl), (Nat.le_of_ble_eq_true rfl)⟩ rfl hl.1 (hW_ok [] (Nat.le_of_ble_eq_true rfl)) dX9_put_2 ⟨(Nat.le_of_ble_eq_true rfl), (Nat.le_of_ble_eq_true rfl)⟩ rfl (by rw [e6]; rfl) (mX9_find l D fu S b3 x1 _ g7) (fun H locs hV => ?_)
  refine h_astore (tl' := [(4, .inr r1), (0, .inr (some a0)), (1, .inl x1), (2, .inl x2), (3, .inl x3)]) hx hb dX9_put_5 hl (by decide) rfl (fun ls hl => ?_)
  refine hr_aload hx hb dX9_put_7 (hr_at hl 0 rfl) ?_
  refine hr_ifnonnull (tgt := 14) hx hb dX9_put_9 (by decide) (fun c9 => ?_) (fun c9 => ?_)
  · rw [if_neg c9] at h8
    refine hr_aload hx hb dX9_put_14 (hr_at hl 0 rfl) ?_
    obtain ⟨v10, g11, h12⟩ := hbind h8; clear h8
    refine h_gI hx hb hown hV g11 (flRX9_78 hts hK) dX9_put_16 ?_
    refine lv_iconst (v := 1) hx hb dX9_put_19 (by decide) ?_
    refine lv_icmp_eq (tgt := 26) hx hb dX9_put_20 (by decide) (fun c13 => ?_) (fun c13 => ?_)
    · rw [if_pos c13] at h12
      refine hr_aload hx hb dX9_put_26 (hr_at hl 0 rfl) ?_
      refine lv_iload_n hx hb dX9_put_28 rfl (hi_at hl 3 rfl) ?_
      obtain ⟨b16, g17, h18⟩ := hbind h12; clear h12
      obtain ⟨_, _, e19, q19⟩ := rcv_inv g17
      obtain ⟨r14, S15, g20, h21⟩ := hbn2 h18; clear h18
      refine h_callVN (n := 1) (As := [.int x2]) (rest := []) (st1 := [.int r14]) (fr := 0) (lo := 0) (mc := 0) (ms := 0) C.1 hK hV q19 rfl rfl wd297 (wo294 hK.2) wd296 wd10 wd84 ⟨by decide, by decide, by decide⟩ ⟨(Nat.le_of_ble_eq_true rfl), (Nat.le_of_ble_eq_true rfl)⟩ rfl hl.1 (hW_ok [] (Nat.le_of_ble_eq_true rfl)) dX9_put_29 ⟨(Nat.le_of_ble_eq_true rfl), (Nat.le_of_ble_eq_true rfl)⟩ rfl (by rw [e19]; rfl) (mX4_hasNumber l D fu S2 b16 x2 _ g20) (fun H locs hV => ?_)
      refine lv_if_ne (tgt := 38) hx hb dX9_put_32 (by decide) (fun c22 => ?_) (fun c22 => ?_)
      · rw [if_neg c22] at h21
        refine hr_aload_n hx hb dX9_put_38 rfl (hr_at hl 1 rfl) ?_
        obtain ⟨v23, g24, h25⟩ := hbind h21; clear h21
        refine h_gR hx hb hown hV g24 (flRX9_18 hts hK) dX9_put_39 ?_
        refine hr_aload hx hb dX9_put_42 (hr_at hl 0 rfl) ?_
        obtain ⟨v26, g27, h28⟩ := hbind h25; clear h25
        refine h_gR hx hb hown hV g27 (flRX9_61 hts hK) dX9_put_44 ?_
        obtain ⟨v29, g30, h31⟩ := hbind h28; clear h28
        refine h_gI hx hb hown hV g30 (flRX9_65 hts hK) dX9_put_47 ?_
        refine lv_iload_n hx hb dX9_put_50 rfl (hi_at hl 3 rfl) ?_
        refine lv_iadd hx hb dX9_put_51 ?_
        refine lv_iload_n hx hb dX9_put_52 rfl (hi_at hl 4 rfl) ?_
        obtain ⟨b34, g35, h36⟩ := hbind h31; clear h31
        obtain ⟨_, _, e37, q37⟩ := rcv_inv g35
        obtain ⟨r32, S33, g38, h39⟩ := hbn2 h36; clear h36
        refine h_callVN (n := 2) (As := [.int (v29 + x2), .int x3]) (rest := []) (st1 := []) (fr := 0) (lo := 0) (mc := 0) (ms := 0) C.1 hK hV q37 rfl rfl wd285 (wo298 hK.2) wd284 wd8 wd79 ⟨by decide, by decide, by decide⟩ ⟨(Nat.le_of_ble_eq_true rfl), (Nat.le_of_ble_eq_true rfl)⟩ rfl hl.1 (hW_ok [] (Nat.le_of_ble_eq_true rfl)) dX9_put_53 ⟨(Nat.le_of_ble_eq_true rfl), (Nat.le_of_ble_eq_true rfl)⟩ rfl (by rw [e37]; rfl) (mX0_write l D fu S15 b34 (v29 + x2) x3 _ g38) (fun H locs hV => ?_)
        refine lv_iconst (v := 0) hx hb dX9_put_56 (by decide) ?_
        exact h_iret hx hb hr hlk hV h39 (Nat.le_of_ble_eq_true rfl) (Nat.le_of_ble_eq_true rfl) dX9_put_57
      · rw [if_pos c22] at h21
        refine lv_bipush (v := -2) hx hb dX9_put_35 (by decide) ?_
        exact h_iret hx hb hr hlk hV h21 (Nat.le_of_ble_eq_true rfl) (Nat.le_of_ble_eq_true rfl) dX9_put_37
    · rw [if_neg c13] at h12
      refine lv_bipush (v := -3) hx hb dX9_put_23 (by decide) ?_
      exact h_iret hx hb hr hlk hV h12 (Nat.le_of_ble_eq_true rfl) (Nat.le_of_ble_eq_true rfl) dX9_put_25
  · rw [if_pos c9] at h8
    refine lv_iconst (v := -1) hx hb dX9_put_12 (by decide) ?_
    exact h_iret hx hb hr hlk hV h8 (Nat.le_of_ble_eq_true rfl) (Nat.le_of_ble_eq_true rfl) dX9_put_13
def fX9_exchangeBlocks_92 (fu : Nat) (S : hS) (a0 : Nat) (x1 : Option Nat) (x2 : Int32) (x3 : Int32) (x4 : Int32) (x5 : Int32) (x6 : Int32) (t0 : Int32) : Option (Int32 × hS) := if t0 = 0 then ((gR S 8 0 (some a0)).bind fun v36 =>
(gR S 4 2 x1).bind fun v39 =>
(rcv S 0 v36).bind fun b44 =>
bn2 (fX0_putAt fu S b44 v39 x4 x6) fun _ S43 =>
if x3 = 0 then ((zz (0 : Int32)).bind (fun v => some (v, S43))) else ((gR S43 8 0 (some a0)).bind fun v51 =>
(gR S43 4 3 x1).bind fun v54 =>
(rcv S43 0 v51).bind fun b59 =>
bn2 (fX0_putAt fu S43 b59 v54 x5 x6) fun _ S58 =>
(zz (0 : Int32)).bind (fun v => some (v, S58)))) else ((gR S 8 0 (some a0)).bind fun v2 =>
(gR S 4 2 x1).bind fun v5 =>
(gI S 1 0 v5).bind fun v8 =>
(rcv S 0 v2).bind fun b13 =>
bn2 (fX0_copy fu S b13 x4 v8 (imn x6 x2)) fun _ S12 =>
(gR S12 8 0 (some a0)).bind fun v19 =>
(gR S12 4 2 x1).bind fun v22 =>
(gI S12 1 0 v22).bind fun v25 =>
(rcv S12 0 v19).bind fun b30 =>
bn2 (fX0_clear fu S12 b30 (v25 + (imn x6 x2)) (x2 - (imn x6 x2))) fun _ S29 =>
(zz (1 : Int32)).bind (fun v => some (v, S29)))
set_option maxHeartbeats 4000000 in
set_option maxRecDepth 100000 in
theorem kX9_exchangeBlocks_92 {p : Program} {l : Launch} {e : Env} {s : State} {m : MethodId} {args : Array Value} {below : List Frame} {meth : Method} {c : Code} {D : hD} {S0 : hS} {z : Int32 × hS} (C : hCx p m c cX9_exchangeBlocks 9 s args RX9 meth (some .boolean) D) (fu : Nat) : ∀ (S : hS) (a0 : Nat) (x1 : Option Nat) (x2 : Int32) (x3 : Int32) (x4 : Int32) (x5 : Int32) (x6 : Int32) (t0 : Int32) (H : Heap) (locs : List Loc) (ls : Array Slot), fX9_exchangeBlocks_92 fu S a0 x1 x2 x3 x4 x5 x6 t0 = some z → h_V D (h_A S0) s S H locs → hl_has ls 9 [(0, .inr (some a0)), (1, .inr x1), (2, .inl x2), (3, .inl x3), (4, .inl x4), (5, .inl x5), (6, .inl x6)] → W p l e { frames := 4, cells := 0, slots := 0, locals := 87 } s m args below meth c H locs 0 0 (MQ below (h_Q D (h_A S0) (some (.int z.1)) z.2) args s 0 0 (h_A S0)) (F0 m 92 ls [.int t0]) := by
  obtain ⟨-, hx, hb, hml, hown, hr, hlk, hK, hts⟩ := id C
  intro S a0 x1 x2 x3 x4 x5 x6 t0 _ _ _ h hV hl
  unfold fX9_exchangeBlocks_92 at h
  refine h_istore (tl' := [(7, .inl t0), (0, .inr (some a0)), (1, .inr x1), (2, .inl x2), (3, .inl x3), (4, .inl x4), (5, .inl x5), (6, .inl x6)]) hx hb dX9_exchangeBlocks_92 hl (by decide) rfl (fun ls hl => ?_)
  refine lv_iload hx hb dX9_exchangeBlocks_94 (hi_at hl 0 rfl) ?_
  refine lv_if_ne (tgt := 135) hx hb dX9_exchangeBlocks_96 (by decide) (fun c1 => ?_) (fun c1 => ?_)
  · rw [if_neg c1] at h
    refine lv_iload hx hb dX9_exchangeBlocks_135 (hi_at hl 7 rfl) ?_
    refine lv_iload_n hx hb dX9_exchangeBlocks_137 rfl (hi_at hl 3 rfl) ?_
    refine h_mmin hx hb (hml.trans hl.1.symm) hown hts wd104 wd105 wd80 wd106 (Nat.le_of_ble_eq_true rfl) (hW_okL [] (Nat.le_of_ble_eq_true rfl)) (Nat.le_of_ble_eq_true rfl) (Nat.le_of_ble_eq_true rfl) dX9_exchangeBlocks_138 ?_
    refine h_istore (tl' := [(8, .inl (imn x6 x2)), (7, .inl t0), (0, .inr (some a0)), (1, .inr x1), (2, .inl x2), (3, .inl x3), (4, .inl x4), (5, .inl x5), (6, .inl x6)]) hx hb dX9_exchangeBlocks_141 hl (by decide) rfl (fun ls hl => ?_)
    refine hr_aload_n hx hb dX9_exchangeBlocks_143 rfl (hr_at hl 2 rfl) ?_
    obtain ⟨v2, g3, h4⟩ := hbind h; clear h
    refine h_gR hx hb hown hV g3 (flRX9_18 hts hK) dX9_exchangeBlocks_144 ?_
    refine lv_iload hx hb dX9_exchangeBlocks_147 (hi_at hl 6 rfl) ?_
    refine hr_aload_n hx hb dX9_exchangeBlocks_149 rfl (hr_at hl 3 rfl) ?_
    obtain ⟨v5, g6, h7⟩ := hbind h4; clear h4
    refine h_gR hx hb hown hV g6 (flRX9_61 hts hK) dX9_exchangeBlocks_150 ?_
    obtain ⟨v8, g9, h10⟩ := hbind h7; clear h7
    refine h_gI hx hb hown hV g9 (flRX9_65 hts hK) dX9_exchangeBlocks_153 ?_
    refine lv_iload hx hb dX9_exchangeBlocks_156 (hi_at hl 0 rfl) ?_
    obtain ⟨b13, g14, h15⟩ := hbind h10; clear h10
    obtain ⟨_, _, e16, q16⟩ := rcv_inv g14
    obtain ⟨r11, S12, g17, h18⟩ := hbn2 h15; clear h15
    refine h_callVN (n := 3) (As := [.int x4, .int v8, .int (imn x6 x2)]) (rest := []) (st1 := []) (fr := 1) (lo := 18) (mc := 0) (ms := 0) C.1 hK hV q16 rfl rfl wd314 (wo311 hK.2) wd313 wd13 wd79 ⟨by decide, by decide, by decide⟩ ⟨(Nat.le_of_ble_eq_true rfl), (Nat.le_of_ble_eq_true rfl)⟩ rfl hl.1 (hW_ok [] (Nat.le_of_ble_eq_true rfl)) dX9_exchangeBlocks_158 ⟨(Nat.le_of_ble_eq_true rfl), (Nat.le_of_ble_eq_true rfl)⟩ rfl (by rw [e16]; rfl) (mX0_copy l D fu S b13 x4 v8 (imn x6 x2) _ g17) (fun H locs hV => ?_)
    refine hr_aload_n hx hb dX9_exchangeBlocks_161 rfl (hr_at hl 2 rfl) ?_
    obtain ⟨v19, g20, h21⟩ := hbind h18; clear h18
    refine h_gR hx hb hown hV g20 (flRX9_18 hts hK) dX9_exchangeBlocks_162 ?_
    refine hr_aload_n hx hb dX9_exchangeBlocks_165 rfl (hr_at hl 3 rfl) ?_
    obtain ⟨v22, g23, h24⟩ := hbind h21; clear h21
    refine h_gR hx hb hown hV g23 (flRX9_61 hts hK) dX9_exchangeBlocks_166 ?_
    obtain ⟨v25, g26, h27⟩ := hbind h24; clear h24
    refine h_gI hx hb hown hV g26 (flRX9_65 hts hK) dX9_exchangeBlocks_169 ?_
    refine lv_iload hx hb dX9_exchangeBlocks_172 (hi_at hl 0 rfl) ?_
    refine lv_iadd hx hb dX9_exchangeBlocks_174 ?_
    refine lv_iload_n hx hb dX9_exchangeBlocks_175 rfl (hi_at hl 4 rfl) ?_
    refine lv_iload hx hb dX9_exchangeBlocks_176 (hi_at hl 0 rfl) ?_
    refine lv_isub hx hb dX9_exchangeBlocks_178 ?_
    obtain ⟨b30, g31, h32⟩ := hbind h27; clear h27
    obtain ⟨_, _, e33, q33⟩ := rcv_inv g31
    obtain ⟨r28, S29, g34, h35⟩ := hbn2 h32; clear h32
    refine h_callVN (n := 2) (As := [.int (v25 + (imn x6 x2)), .int (x2 - (imn x6 x2))]) (rest := []) (st1 := []) (fr := 1) (lo := 22) (mc := 0) (ms := 0) C.1 hK hV q33 rfl rfl wd281 (wo278 hK.2) wd280 wd7 wd79 ⟨by decide, by decide, by decide⟩ ⟨(Nat.le_of_ble_eq_true rfl), (Nat.le_of_ble_eq_true rfl)⟩ rfl hl.1 (hW_ok [] (Nat.le_of_ble_eq_true rfl)) dX9_exchangeBlocks_179 ⟨(Nat.le_of_ble_eq_true rfl), (Nat.le_of_ble_eq_true rfl)⟩ rfl (by rw [e33]; rfl) (mX0_clear l D fu S12 b30 (v25 + (imn x6 x2)) (x2 - (imn x6 x2)) _ g34) (fun H locs hV => ?_)
    refine lv_iconst (v := 1) hx hb dX9_exchangeBlocks_182 (by decide) ?_
    exact h_zret hx hb hr hlk hV h35 (Nat.le_of_ble_eq_true rfl) (Nat.le_of_ble_eq_true rfl) dX9_exchangeBlocks_183
  · rw [if_pos c1] at h
    refine hr_aload_n hx hb dX9_exchangeBlocks_99 rfl (hr_at hl 1 rfl) ?_
    obtain ⟨v36, g37, h38⟩ := hbind h; clear h
    refine h_gR hx hb hown hV g37 (flRX9_18 hts hK) dX9_exchangeBlocks_100 ?_
    refine hr_aload_n hx hb dX9_exchangeBlocks_103 rfl (hr_at hl 2 rfl) ?_
    obtain ⟨v39, g40, h41⟩ := hbind h38; clear h38
    refine h_gR hx hb hown hV g40 (flRX9_61 hts hK) dX9_exchangeBlocks_104 ?_
    refine lv_iload hx hb dX9_exchangeBlocks_107 (hi_at hl 5 rfl) ?_
    refine lv_iload hx hb dX9_exchangeBlocks_109 (hi_at hl 7 rfl) ?_
    obtain ⟨b44, g45, h46⟩ := hbind h41; clear h41
    obtain ⟨_, _, e47, q47⟩ := rcv_inv g45
    obtain ⟨r42, S43, g48, h49⟩ := hbn2 h46; clear h46
    refine h_callVN (n := 3) (As := [va_rf v39, .int x4, .int x6]) (rest := []) (st1 := []) (fr := 1) (lo := 24) (mc := 0) (ms := 0) C.1 hK hV q47 rfl rfl wd310 (wo307 hK.2) wd309 wd12 wd79 ⟨by decide, by decide, by decide⟩ ⟨(Nat.le_of_ble_eq_true rfl), (Nat.le_of_ble_eq_true rfl)⟩ rfl hl.1 (hW_ok [] (Nat.le_of_ble_eq_true rfl)) dX9_exchangeBlocks_111 ⟨(Nat.le_of_ble_eq_true rfl), (Nat.le_of_ble_eq_true rfl)⟩ rfl (by rw [e47]; rfl) (mX0_putAt l D fu S b44 v39 x4 x6 _ g48) (fun H locs hV => ?_)
    refine lv_iload_n hx hb dX9_exchangeBlocks_114 rfl (hi_at hl 4 rfl) ?_
    refine lv_if_eq (tgt := 133) hx hb dX9_exchangeBlocks_115 (by decide) (fun c50 => ?_) (fun c50 => ?_)
    · rw [if_pos c50] at h49
      refine lv_iconst (v := 0) hx hb dX9_exchangeBlocks_133 (by decide) ?_
      exact h_zret hx hb hr hlk hV h49 (Nat.le_of_ble_eq_true rfl) (Nat.le_of_ble_eq_true rfl) dX9_exchangeBlocks_134
    · rw [if_neg c50] at h49
      refine hr_aload_n hx hb dX9_exchangeBlocks_118 rfl (hr_at hl 1 rfl) ?_
      obtain ⟨v51, g52, h53⟩ := hbind h49; clear h49
      refine h_gR hx hb hown hV g52 (flRX9_18 hts hK) dX9_exchangeBlocks_119 ?_
      refine hr_aload_n hx hb dX9_exchangeBlocks_122 rfl (hr_at hl 2 rfl) ?_
      obtain ⟨v54, g55, h56⟩ := hbind h53; clear h53
      refine h_gR hx hb hown hV g55 (flRX9_133 hts hK) dX9_exchangeBlocks_123 ?_
      refine lv_iload hx hb dX9_exchangeBlocks_126 (hi_at hl 6 rfl) ?_
      refine lv_iload hx hb dX9_exchangeBlocks_128 (hi_at hl 7 rfl) ?_
      obtain ⟨b59, g60, h61⟩ := hbind h56; clear h56
      obtain ⟨_, _, e62, q62⟩ := rcv_inv g60
      obtain ⟨r57, S58, g63, h64⟩ := hbn2 h61; clear h61
      refine h_callVN (n := 3) (As := [va_rf v54, .int x5, .int x6]) (rest := []) (st1 := []) (fr := 1) (lo := 24) (mc := 0) (ms := 0) C.1 hK hV q62 rfl rfl wd310 (wo307 hK.2) wd309 wd12 wd79 ⟨by decide, by decide, by decide⟩ ⟨(Nat.le_of_ble_eq_true rfl), (Nat.le_of_ble_eq_true rfl)⟩ rfl hl.1 (hW_ok [] (Nat.le_of_ble_eq_true rfl)) dX9_exchangeBlocks_130 ⟨(Nat.le_of_ble_eq_true rfl), (Nat.le_of_ble_eq_true rfl)⟩ rfl (by rw [e62]; rfl) (mX0_putAt l D fu S43 b59 v54 x5 x6 _ g63) (fun H locs hV => ?_)
      refine lv_iconst (v := 0) hx hb dX9_exchangeBlocks_133 (by decide) ?_
      exact h_zret hx hb hr hlk hV h64 (Nat.le_of_ble_eq_true rfl) (Nat.le_of_ble_eq_true rfl) dX9_exchangeBlocks_134
def fX9_exchangeBlocks_67 (fu : Nat) (S : hS) (a0 : Nat) (x1 : Option Nat) (x2 : Int32) (x3 : Int32) (x4 : Int32) (x5 : Int32) (x6 : Int32) : Option (Int32 × hS) := if x3 = 0 then ((gR S 8 0 (some a0)).bind fun v2 =>
(gR S 4 2 x1).bind fun v5 =>
(rcv S 0 v2).bind fun b10 =>
bn2 (fX0_take fu S b10 v5 x2) fun r8 S9 =>
fX9_exchangeBlocks_92 fu S9 a0 x1 x2 x3 x4 x5 x6 r8) else ((rcv S 8 (some a0)).bind fun b18 =>
bn2 (fX9_takeCellsAndBuffer fu S b18 x1 x2) fun r16 S17 =>
fX9_exchangeBlocks_92 fu S17 a0 x1 x2 x3 x4 x5 x6 r16)
set_option maxHeartbeats 4000000 in
set_option maxRecDepth 100000 in
theorem kX9_exchangeBlocks_67 {p : Program} {l : Launch} {e : Env} {s : State} {m : MethodId} {args : Array Value} {below : List Frame} {meth : Method} {c : Code} {D : hD} {S0 : hS} {z : Int32 × hS} (C : hCx p m c cX9_exchangeBlocks 9 s args RX9 meth (some .boolean) D) (fu : Nat) : ∀ (S : hS) (a0 : Nat) (x1 : Option Nat) (x2 : Int32) (x3 : Int32) (x4 : Int32) (x5 : Int32) (x6 : Int32) (H : Heap) (locs : List Loc) (ls : Array Slot), fX9_exchangeBlocks_67 fu S a0 x1 x2 x3 x4 x5 x6 = some z → h_V D (h_A S0) s S H locs → hl_has ls 9 [(0, .inr (some a0)), (1, .inr x1), (2, .inl x2), (3, .inl x3), (4, .inl x4), (5, .inl x5), (6, .inl x6)] → W p l e { frames := 4, cells := 0, slots := 0, locals := 87 } s m args below meth c H locs 0 0 (MQ below (h_Q D (h_A S0) (some (.int z.1)) z.2) args s 0 0 (h_A S0)) (F0 m 67 ls []) := by
  obtain ⟨-, hx, hb, hml, hown, hr, hlk, hK, hts⟩ := id C
  intro S a0 x1 x2 x3 x4 x5 x6 _ _ _ h hV hl
  unfold fX9_exchangeBlocks_67 at h
  refine lv_iload_n hx hb dX9_exchangeBlocks_67 rfl (hi_at hl 3 rfl) ?_
  refine lv_if_eq (tgt := 80) hx hb dX9_exchangeBlocks_68 (by decide) (fun c1 => ?_) (fun c1 => ?_)
  · rw [if_pos c1] at h
    refine hr_aload_n hx hb dX9_exchangeBlocks_80 rfl (hr_at hl 0 rfl) ?_
    obtain ⟨v2, g3, h4⟩ := hbind h; clear h
    refine h_gR hx hb hown hV g3 (flRX9_18 hts hK) dX9_exchangeBlocks_81 ?_
    refine hr_aload_n hx hb dX9_exchangeBlocks_84 rfl (hr_at hl 1 rfl) ?_
    obtain ⟨v5, g6, h7⟩ := hbind h4; clear h4
    refine h_gR hx hb hown hV g6 (flRX9_61 hts hK) dX9_exchangeBlocks_85 ?_
    refine lv_iload_n hx hb dX9_exchangeBlocks_88 rfl (hi_at hl 2 rfl) ?_
    obtain ⟨b10, g11, h12⟩ := hbind h7; clear h7
    obtain ⟨_, _, e13, q13⟩ := rcv_inv g11
    obtain ⟨r8, S9, g14, h15⟩ := hbn2 h12; clear h12
    refine h_callVN (n := 2) (As := [va_rf v5, .int x2]) (rest := []) (st1 := [.int r8]) (fr := 2) (lo := 42) (mc := 0) (ms := 0) C.1 hK hV q13 rfl rfl wd258 (wo255 hK.2) wd257 wd2 wd79 ⟨by decide, by decide, by decide⟩ ⟨(Nat.le_of_ble_eq_true rfl), (Nat.le_of_ble_eq_true rfl)⟩ rfl hl.1 (hW_ok [] (Nat.le_of_ble_eq_true rfl)) dX9_exchangeBlocks_89 ⟨(Nat.le_of_ble_eq_true rfl), (Nat.le_of_ble_eq_true rfl)⟩ rfl (by rw [e13]; rfl) (mX0_take l D fu S b10 v5 x2 _ g14) (fun H locs hV => ?_)
    exact kX9_exchangeBlocks_92 C fu S9 a0 x1 x2 x3 x4 x5 x6 r8 _ _ _ h15 hV (hl_sub hl [0, 1, 2, 3, 4, 5, 6] rfl)
  · rw [if_neg c1] at h
    refine hr_aload_n hx hb dX9_exchangeBlocks_71 rfl (hr_at hl 0 rfl) ?_
    refine hr_aload_n hx hb dX9_exchangeBlocks_72 rfl (hr_at hl 1 rfl) ?_
    refine lv_iload_n hx hb dX9_exchangeBlocks_73 rfl (hi_at hl 2 rfl) ?_
    obtain ⟨b18, g19, h20⟩ := hbind h; clear h
    obtain ⟨_, _, e21, q21⟩ := rcv_inv g19
    obtain ⟨r16, S17, g22, h23⟩ := hbn2 h20; clear h20
    refine h_callV (n := 2) (As := [va_rf x1, .int x2]) (rest := []) (st1 := [.int r16]) (fr := 3) (lo := 65) (mc := 0) (ms := 0) C.1 hK hV q21 rfl rfl wd254 wd251 wd253 wd1 wd78 ⟨by decide, by decide, by decide⟩ ⟨(Nat.le_of_ble_eq_true rfl), (Nat.le_of_ble_eq_true rfl)⟩ rfl hl.1 (hW_ok [] (Nat.le_of_ble_eq_true rfl)) dX9_exchangeBlocks_74 ⟨(Nat.le_of_ble_eq_true rfl), (Nat.le_of_ble_eq_true rfl)⟩ rfl (by rw [e21]; rfl) (mX9_takeCellsAndBuffer l D fu S b18 x1 x2 _ g22) (fun H locs hV => ?_)
    refine lv_goto (tgt := 92) hx hb dX9_exchangeBlocks_77 (by decide) ?_
    exact kX9_exchangeBlocks_92 C fu S17 a0 x1 x2 x3 x4 x5 x6 r16 _ _ _ h23 hV (hl_sub hl [0, 1, 2, 3, 4, 5, 6] rfl)
def fX9_exchangeBlocks_13 (fu : Nat) (S : hS) (a0 : Nat) (x1 : Option Nat) (x2 : Int32) (t0 : Int32) : Option (Int32 × hS) := (gR S 4 2 x1).bind fun v1 => (gI S 1 0 v1).bind fun v4 => (gR S 4 3 x1).bind fun v7 => (gI S 1 0 v7).bind fun v10 => (gR S 4 2 x1).bind fun v13 => (gI S 1 1 v13).bind fun v16 => (gR S 8 0 (some a0)).bind fun v19 => (gR S 4 2 x1).bind fun v22 => (rcv S 0 v19).bind fun b27 => bn2 (fX0_giveBack fu S b27 v22) fun _ S26 => if t0 = 0 then (fX9_exchangeBlocks_67 fu S26 a0 x1 x2 t0 v4 v10 v16) else ((gR S26 8 0 (some a0)).bind fun v34 =>
(gR S26 4 3 x1).bind fun v37 =>
(rcv S26 0 v34).bind fun b42 =>
bn2 (fX0_giveBack fu S26 b42 v37) fun _ S41 =>
fX9_exchangeBlocks_67 fu S41 a0 x1 x2 t0 v4 v10 v16)
set_option maxHeartbeats 4000000 in
set_option maxRecDepth 100000 in
theorem kX9_exchangeBlocks_13 {p : Program} {l : Launch} {e : Env} {s : State} {m : MethodId} {args : Array Value} {below : List Frame} {meth : Method} {c : Code} {D : hD} {S0 : hS} {z : Int32 × hS} (C : hCx p m c cX9_exchangeBlocks 9 s args RX9 meth (some .boolean) D) (fu : Nat) : ∀ (S : hS) (a0 : Nat) (x1 : Option Nat) (x2 : Int32) (t0 : Int32) (H : Heap) (locs : List Loc) (ls : Array Slot), fX9_exchangeBlocks_13 fu S a0 x1 x2 t0 = some z → h_V D (h_A S0) s S H locs → hl_has ls 9 [(0, .inr (some a0)), (1, .inr x1), (2, .inl x2)] → W p l e { frames := 4, cells := 0, slots := 0, locals := 87 } s m args below meth c H locs 0 0 (MQ below (h_Q D (h_A S0) (some (.int z.1)) z.2) args s 0 0 (h_A S0)) (F0 m 13 ls [.int t0]) := by
  obtain ⟨-, hx, hb, hml, hown, hr, hlk, hK, hts⟩ := id C
  intro S a0 x1 x2 t0 _ _ _ h hV hl
  unfold fX9_exchangeBlocks_13 at h
  refine h_istore_n (tl' := [(3, .inl t0), (0, .inr (some a0)), (1, .inr x1), (2, .inl x2)]) hx hb dX9_exchangeBlocks_13 rfl hl (by decide) rfl (fun ls hl => ?_)
  refine hr_aload_n hx hb dX9_exchangeBlocks_14 rfl (hr_at hl 2 rfl) ?_
  obtain ⟨v1, g2, h3⟩ := hbind h; clear h
  refine h_gR hx hb hown hV g2 (flRX9_61 hts hK) dX9_exchangeBlocks_15 ?_
  obtain ⟨v4, g5, h6⟩ := hbind h3; clear h3
  refine h_gI hx hb hown hV g5 (flRX9_65 hts hK) dX9_exchangeBlocks_18 ?_
  refine h_istore (tl' := [(4, .inl v4), (3, .inl t0), (0, .inr (some a0)), (1, .inr x1), (2, .inl x2)]) hx hb dX9_exchangeBlocks_21 hl (by decide) rfl (fun ls hl => ?_)
  refine hr_aload_n hx hb dX9_exchangeBlocks_23 rfl (hr_at hl 3 rfl) ?_
  obtain ⟨v7, g8, h9⟩ := hbind h6; clear h6
  refine h_gR hx hb hown hV g8 (flRX9_133 hts hK) dX9_exchangeBlocks_24 ?_
  obtain ⟨v10, g11, h12⟩ := hbind h9; clear h9
  refine h_gI hx hb hown hV g11 (flRX9_65 hts hK) dX9_exchangeBlocks_27 ?_
  refine h_istore (tl' := [(5, .inl v10), (4, .inl v4), (3, .inl t0), (0, .inr (some a0)), (1, .inr x1), (2, .inl x2)]) hx hb dX9_exchangeBlocks_30 hl (by decide) rfl (fun ls hl => ?_)
  refine hr_aload_n hx hb dX9_exchangeBlocks_32 rfl (hr_at hl 4 rfl) ?_
  obtain ⟨v13, g14, h15⟩ := hbind h12; clear h12
  refine h_gR hx hb hown hV g14 (flRX9_61 hts hK) dX9_exchangeBlocks_33 ?_
  obtain ⟨v16, g17, h18⟩ := hbind h15; clear h15
  refine h_gI hx hb hown hV g17 (flRX9_139 hts hK) dX9_exchangeBlocks_36 ?_
  refine h_istore (tl' := [(6, .inl v16), (5, .inl v10), (4, .inl v4), (3, .inl t0), (0, .inr (some a0)), (1, .inr x1), (2, .inl x2)]) hx hb dX9_exchangeBlocks_39 hl (by decide) rfl (fun ls hl => ?_)
  refine hr_aload_n hx hb dX9_exchangeBlocks_41 rfl (hr_at hl 4 rfl) ?_
  obtain ⟨v19, g20, h21⟩ := hbind h18; clear h18
  refine h_gR hx hb hown hV g20 (flRX9_18 hts hK) dX9_exchangeBlocks_42 ?_
  refine hr_aload_n hx hb dX9_exchangeBlocks_45 rfl (hr_at hl 5 rfl) ?_
  obtain ⟨v22, g23, h24⟩ := hbind h21; clear h21
  refine h_gR hx hb hown hV g23 (flRX9_61 hts hK) dX9_exchangeBlocks_46 ?_
  obtain ⟨b27, g28, h29⟩ := hbind h24; clear h24
  obtain ⟨_, _, e30, q30⟩ := rcv_inv g28
  obtain ⟨r25, S26, g31, h32⟩ := hbn2 h29; clear h29
  refine h_callVN (n := 1) (As := [va_rf v22]) (rest := []) (st1 := []) (fr := 0) (lo := 0) (mc := 0) (ms := 0) C.1 hK hV q30 rfl rfl wd277 (wo274 hK.2) wd276 wd6 wd79 ⟨by decide, by decide, by decide⟩ ⟨(Nat.le_of_ble_eq_true rfl), (Nat.le_of_ble_eq_true rfl)⟩ rfl hl.1 (hW_ok [] (Nat.le_of_ble_eq_true rfl)) dX9_exchangeBlocks_49 ⟨(Nat.le_of_ble_eq_true rfl), (Nat.le_of_ble_eq_true rfl)⟩ rfl (by rw [e30]; rfl) (mX0_giveBack l D fu S b27 v22 _ g31) (fun H locs hV => ?_)
  refine lv_iload_n hx hb dX9_exchangeBlocks_52 rfl (hi_at hl 3 rfl) ?_
  refine lv_if_eq (tgt := 67) hx hb dX9_exchangeBlocks_53 (by decide) (fun c33 => ?_) (fun c33 => ?_)
  · rw [if_pos c33] at h32
    exact kX9_exchangeBlocks_67 C fu S26 a0 x1 x2 t0 v4 v10 v16 _ _ _ h32 hV (hl_sub hl [4, 5, 6, 3, 2, 1, 0] rfl)
  · rw [if_neg c33] at h32
    refine hr_aload_n hx hb dX9_exchangeBlocks_56 rfl (hr_at hl 4 rfl) ?_
    obtain ⟨v34, g35, h36⟩ := hbind h32; clear h32
    refine h_gR hx hb hown hV g35 (flRX9_18 hts hK) dX9_exchangeBlocks_57 ?_
    refine hr_aload_n hx hb dX9_exchangeBlocks_60 rfl (hr_at hl 5 rfl) ?_
    obtain ⟨v37, g38, h39⟩ := hbind h36; clear h36
    refine h_gR hx hb hown hV g38 (flRX9_133 hts hK) dX9_exchangeBlocks_61 ?_
    obtain ⟨b42, g43, h44⟩ := hbind h39; clear h39
    obtain ⟨_, _, e45, q45⟩ := rcv_inv g43
    obtain ⟨r40, S41, g46, h47⟩ := hbn2 h44; clear h44
    refine h_callVN (n := 1) (As := [va_rf v37]) (rest := []) (st1 := []) (fr := 0) (lo := 0) (mc := 0) (ms := 0) C.1 hK hV q45 rfl rfl wd277 (wo274 hK.2) wd276 wd6 wd79 ⟨by decide, by decide, by decide⟩ ⟨(Nat.le_of_ble_eq_true rfl), (Nat.le_of_ble_eq_true rfl)⟩ rfl hl.1 (hW_ok [] (Nat.le_of_ble_eq_true rfl)) dX9_exchangeBlocks_64 ⟨(Nat.le_of_ble_eq_true rfl), (Nat.le_of_ble_eq_true rfl)⟩ rfl (by rw [e45]; rfl) (mX0_giveBack l D fu S26 b42 v37 _ g46) (fun H locs hV => ?_)
    exact kX9_exchangeBlocks_67 C fu S41 a0 x1 x2 t0 v4 v10 v16 _ _ _ h47 hV (hl_sub hl [4, 5, 6, 3, 2, 1, 0] rfl)
def fX9_exchangeBlocks (fu : Nat) (S : hS) (a0 : Nat) (x1 : Option Nat) (x2 : Int32) : Option (Int32 × hS) := (gI S 4 1 x1).bind fun v1 => if v1 = (2 : Int32) then (fX9_exchangeBlocks_13 fu S a0 x1 x2 (1 : Int32)) else (fX9_exchangeBlocks_13 fu S a0 x1 x2 (0 : Int32))
set_option maxHeartbeats 4000000 in
set_option maxRecDepth 100000 in
theorem mX9_exchangeBlocks (l : Launch) (D : hD) (fu : Nat) (S : hS) (a0 : Nat) (x1 : Option Nat) (x2 : Int32) (z : Int32 × hS) (h : fX9_exchangeBlocks fu S a0 x1 x2 = some z) : hM l D yX9_exchangeBlocks cX9_exchangeBlocks 9 (some .boolean) 4 87 0 0 [va_rf (some a0), va_rf x1, .int x2] S (some (.int z.1)) z.2 := by
  refine h_body [.inr (some a0), .inr x1, .inl x2] RX9 (by decide) rfl (Nat.le_of_ble_eq_true rfl) ?_
  intro p e s m args below meth c C hin ls hV hl
  obtain ⟨-, hx, hb, hml, hown, hr, hlk, hK, hts⟩ := id C
  unfold fX9_exchangeBlocks at h
  refine hr_aload_n hx hb dX9_exchangeBlocks_0 rfl (hr_at hl 1 rfl) ?_
  obtain ⟨v1, g2, h3⟩ := hbind h; clear h
  refine h_gI hx hb hown hV g2 (flRX9_142 hts hK) dX9_exchangeBlocks_1 ?_
  refine lv_iconst (v := 2) hx hb dX9_exchangeBlocks_4 (by decide) ?_
  refine lv_icmp_ne (tgt := 12) hx hb dX9_exchangeBlocks_5 (by decide) (fun c4 => ?_) (fun c4 => ?_)
  · rw [if_neg c4] at h3
    refine lv_iconst (v := 0) hx hb dX9_exchangeBlocks_12 (by decide) ?_
    exact kX9_exchangeBlocks_13 C fu S a0 x1 x2 (0 : Int32) _ _ _ h3 hV (hl_sub hl [0, 1, 2] rfl)
  · rw [if_pos c4] at h3
    refine lv_iconst (v := 1) hx hb dX9_exchangeBlocks_8 (by decide) ?_
    refine lv_goto (tgt := 13) hx hb dX9_exchangeBlocks_9 (by decide) ?_
    exact kX9_exchangeBlocks_13 C fu S a0 x1 x2 (1 : Int32) _ _ _ h3 hV (hl_sub hl [0, 1, 2] rfl)
def fX9_resize (fu : Nat) (S : hS) (a0 : Nat) (x1 : Int32) (x2 : Int32) : Option (Int32 × hS) := (rcv S 8 (some a0)).bind fun b3 => bn2 (fX9_find fu S b3 x1) fun r1 S2 => if r1 = none then (some ((-1 : Int32), S2)) else ((gI S2 4 5 r1).bind fun v10 =>
if v10 = (1 : Int32) then (bn2 (fX9_isCount fu S2 x2) fun r14 S15 =>
if r14 = 0 then (some ((-4 : Int32), S15)) else ((rcv S15 8 (some a0)).bind fun b21 =>
bn2 (fX9_exchangeBlocks fu S15 b21 r1 x2) fun r19 S20 =>
if r19 = 0 then (some ((-6 : Int32), S20)) else (some ((0 : Int32), S20)))) else (some ((-3 : Int32), S2)))
set_option maxHeartbeats 4000000 in
set_option maxRecDepth 100000 in
theorem mX9_resize (l : Launch) (D : hD) (fu : Nat) (S : hS) (a0 : Nat) (x1 : Int32) (x2 : Int32) (z : Int32 × hS) (h : fX9_resize fu S a0 x1 x2 = some z) : hM l D yX9_resize cX9_resize 4 (some .int) 5 115 0 0 [va_rf (some a0), .int x1, .int x2] S (some (.int z.1)) z.2 := by
  refine h_body [.inr (some a0), .inl x1, .inl x2] RX9 (by decide) rfl (Nat.le_of_ble_eq_true rfl) ?_
  intro p e s m args below meth c C hin ls hV hl
  obtain ⟨-, hx, hb, hml, hown, hr, hlk, hK, hts⟩ := id C
  unfold fX9_resize at h
  refine hr_aload_n hx hb dX9_resize_0 rfl (hr_at hl 0 rfl) ?_
  refine lv_iload_n hx hb dX9_resize_1 rfl (hi_at hl 1 rfl) ?_
  obtain ⟨b3, g4, h5⟩ := hbind h; clear h
  obtain ⟨_, _, e6, q6⟩ := rcv_inv g4
  obtain ⟨r1, S2, g7, h8⟩ := hbn2 h5; clear h5
  refine h_callV (n := 1) (As := [.int x1]) (rest := []) (st1 := [va_rf r1]) (fr := 0) (lo := 0) (mc := 0) (ms := 0) C.1 hK hV q6 rfl rfl wd293 wd290 wd292 wd9 wd78 ⟨by decide, by decide, by decide⟩ ⟨(Nat.le_of_ble_eq_true rfl), (Nat.le_of_ble_eq_true rfl)⟩ rfl hl.1 (hW_ok [] (Nat.le_of_ble_eq_true rfl)) dX9_resize_2 ⟨(Nat.le_of_ble_eq_true rfl), (Nat.le_of_ble_eq_true rfl)⟩ rfl (by rw [e6]; rfl) (mX9_find l D fu S b3 x1 _ g7) (fun H locs hV => ?_)
  refine h_astore_n (tl' := [(3, .inr r1), (0, .inr (some a0)), (1, .inl x1), (2, .inl x2)]) hx hb dX9_resize_5 rfl hl (by decide) rfl (fun ls hl => ?_)
  refine hr_aload_n hx hb dX9_resize_6 rfl (hr_at hl 0 rfl) ?_
  refine hr_ifnonnull (tgt := 12) hx hb dX9_resize_7 (by decide) (fun c9 => ?_) (fun c9 => ?_)
  · rw [if_neg c9] at h8
    refine hr_aload_n hx hb dX9_resize_12 rfl (hr_at hl 0 rfl) ?_
    obtain ⟨v10, g11, h12⟩ := hbind h8; clear h8
    refine h_gI hx hb hown hV g11 (flRX9_78 hts hK) dX9_resize_13 ?_
    refine lv_iconst (v := 1) hx hb dX9_resize_16 (by decide) ?_
    refine lv_icmp_eq (tgt := 23) hx hb dX9_resize_17 (by decide) (fun c13 => ?_) (fun c13 => ?_)
    · rw [if_pos c13] at h12
      refine lv_iload_n hx hb dX9_resize_23 rfl (hi_at hl 3 rfl) ?_
      obtain ⟨r14, S15, g16, h17⟩ := hbn2 h12; clear h12
      refine h_callS (n := 1) (As := [.int x2]) (rest := []) (st1 := [.int r14]) (fr := 1) (lo := 22) (mc := 0) (ms := 0) C.1 hK hV wd188 wd186 wd187 wd78 ⟨by decide, by decide, by decide⟩ ⟨(Nat.le_of_ble_eq_true rfl), (Nat.le_of_ble_eq_true rfl)⟩ rfl hl.1 (hW_ok [] (Nat.le_of_ble_eq_true rfl)) dX9_resize_24 ⟨(Nat.le_of_ble_eq_true rfl), (Nat.le_of_ble_eq_true rfl)⟩ rfl rfl (mX9_isCount l D fu S2 x2 _ g16) (fun H locs hV => ?_)
      refine lv_if_ne (tgt := 33) hx hb dX9_resize_27 (by decide) (fun c18 => ?_) (fun c18 => ?_)
      · rw [if_neg c18] at h17
        refine hr_aload_n hx hb dX9_resize_33 rfl (hr_at hl 1 rfl) ?_
        refine hr_aload_n hx hb dX9_resize_34 rfl (hr_at hl 0 rfl) ?_
        refine lv_iload_n hx hb dX9_resize_35 rfl (hi_at hl 3 rfl) ?_
        obtain ⟨b21, g22, h23⟩ := hbind h17; clear h17
        obtain ⟨_, _, e24, q24⟩ := rcv_inv g22
        obtain ⟨r19, S20, g25, h26⟩ := hbn2 h23; clear h23
        refine h_callV (n := 2) (As := [va_rf r1, .int x2]) (rest := []) (st1 := [.int r19]) (fr := 4) (lo := 87) (mc := 0) (ms := 0) C.1 hK hV q24 rfl rfl wd306 wd303 wd305 wd11 wd78 ⟨by decide, by decide, by decide⟩ ⟨(Nat.le_of_ble_eq_true rfl), (Nat.le_of_ble_eq_true rfl)⟩ rfl hl.1 (hW_ok [] (Nat.le_of_ble_eq_true rfl)) dX9_resize_36 ⟨(Nat.le_of_ble_eq_true rfl), (Nat.le_of_ble_eq_true rfl)⟩ rfl (by rw [e24]; rfl) (mX9_exchangeBlocks l D fu S15 b21 r1 x2 _ g25) (fun H locs hV => ?_)
        refine lv_if_eq (tgt := 46) hx hb dX9_resize_39 (by decide) (fun c27 => ?_) (fun c27 => ?_)
        · rw [if_pos c27] at h26
          refine lv_bipush (v := -6) hx hb dX9_resize_46 (by decide) ?_
          exact h_iret hx hb hr hlk hV h26 (Nat.le_of_ble_eq_true rfl) (Nat.le_of_ble_eq_true rfl) dX9_resize_48
        · rw [if_neg c27] at h26
          refine lv_iconst (v := 0) hx hb dX9_resize_42 (by decide) ?_
          refine lv_goto (tgt := 48) hx hb dX9_resize_43 (by decide) ?_
          exact h_iret hx hb hr hlk hV h26 (Nat.le_of_ble_eq_true rfl) (Nat.le_of_ble_eq_true rfl) dX9_resize_48
      · rw [if_pos c18] at h17
        refine lv_bipush (v := -4) hx hb dX9_resize_30 (by decide) ?_
        exact h_iret hx hb hr hlk hV h17 (Nat.le_of_ble_eq_true rfl) (Nat.le_of_ble_eq_true rfl) dX9_resize_32
    · rw [if_neg c13] at h12
      refine lv_bipush (v := -3) hx hb dX9_resize_20 (by decide) ?_
      exact h_iret hx hb hr hlk hV h12 (Nat.le_of_ble_eq_true rfl) (Nat.le_of_ble_eq_true rfl) dX9_resize_22
  · rw [if_pos c9] at h8
    refine lv_iconst (v := -1) hx hb dX9_resize_10 (by decide) ?_
    exact h_iret hx hb hr hlk hV h8 (Nat.le_of_ble_eq_true rfl) (Nat.le_of_ble_eq_true rfl) dX9_resize_11
def fX9_greatestGapBelow_2 (fu : Nat) : Nat → hS → Int32 → Int32 → Option (Int32 × hS)
  | 0, _, _, _ => none
  | n + 1, S, x0, x1 => if (1000 : Int32) ≤ x1 then (some (x1, S)) else (if x0 ≤ (((3 : Int32) * x1) + (1 : Int32)) then (some (x1, S)) else (fX9_greatestGapBelow_2 fu n S x0 (((3 : Int32) * x1) + (1 : Int32))))
set_option maxHeartbeats 4000000 in
set_option maxRecDepth 100000 in
theorem kX9_greatestGapBelow_2 {p : Program} {l : Launch} {e : Env} {s : State} {m : MethodId} {args : Array Value} {below : List Frame} {meth : Method} {c : Code} {D : hD} {S0 : hS} {z : Int32 × hS} (C : hCx p m c cX9_greatestGapBelow 2 s args RX9 meth (some .int) D) (fu : Nat) : ∀ (n : Nat) (S : hS) (x0 : Int32) (x1 : Int32) (H : Heap) (locs : List Loc) (ls : Array Slot), fX9_greatestGapBelow_2 fu n S x0 x1 = some z → h_V D (h_A S0) s S H locs → hl_has ls 2 [(0, .inl x0), (1, .inl x1)] → W p l e { frames := 0, cells := 0, slots := 0, locals := 0 } s m args below meth c H locs 0 0 (MQ below (h_Q D (h_A S0) (some (.int z.1)) z.2) args s 0 0 (h_A S0)) (F0 m 2 ls []) := by
  obtain ⟨-, hx, hb, hml, hown, hr, hlk, hK, hts⟩ := id C
  intro n
  induction n with
  | zero =>
    intro S x0 x1 _ _ _ h hV hl
    rw [fX9_greatestGapBelow_2] at h
    cases h
  | succ n ih =>
    intro S x0 x1 _ _ _ h hV hl
    rw [fX9_greatestGapBelow_2] at h
    refine lv_iload_n hx hb dX9_greatestGapBelow_2 rfl (hi_at hl 1 rfl) ?_
    refine lv_sipush (v := 1000) hx hb dX9_greatestGapBelow_3 (by decide) ?_
    refine lv_icmp_ge (tgt := 27) hx hb dX9_greatestGapBelow_6 (by decide) (fun c1 => ?_) (fun c1 => ?_)
    · rw [if_pos c1] at h
      refine lv_iload_n hx hb dX9_greatestGapBelow_27 rfl (hi_at hl 1 rfl) ?_
      exact h_iret hx hb hr hlk hV h (Nat.le_of_ble_eq_true rfl) (Nat.le_of_ble_eq_true rfl) dX9_greatestGapBelow_28
    · rw [if_neg c1] at h
      refine lv_iconst (v := 3) hx hb dX9_greatestGapBelow_9 (by decide) ?_
      refine lv_iload_n hx hb dX9_greatestGapBelow_10 rfl (hi_at hl 1 rfl) ?_
      refine lv_imul hx hb dX9_greatestGapBelow_11 ?_
      refine lv_iconst (v := 1) hx hb dX9_greatestGapBelow_12 (by decide) ?_
      refine lv_iadd hx hb dX9_greatestGapBelow_13 ?_
      refine lv_iload_n hx hb dX9_greatestGapBelow_14 rfl (hi_at hl 0 rfl) ?_
      refine lv_icmp_ge (tgt := 27) hx hb dX9_greatestGapBelow_15 (by decide) (fun c2 => ?_) (fun c2 => ?_)
      · rw [if_pos c2] at h
        refine lv_iload_n hx hb dX9_greatestGapBelow_27 rfl (hi_at hl 1 rfl) ?_
        exact h_iret hx hb hr hlk hV h (Nat.le_of_ble_eq_true rfl) (Nat.le_of_ble_eq_true rfl) dX9_greatestGapBelow_28
      · rw [if_neg c2] at h
        refine lv_iconst (v := 3) hx hb dX9_greatestGapBelow_18 (by decide) ?_
        refine lv_iload_n hx hb dX9_greatestGapBelow_19 rfl (hi_at hl 1 rfl) ?_
        refine lv_imul hx hb dX9_greatestGapBelow_20 ?_
        refine lv_iconst (v := 1) hx hb dX9_greatestGapBelow_21 (by decide) ?_
        refine lv_iadd hx hb dX9_greatestGapBelow_22 ?_
        refine h_istore_n (tl' := [(1, .inl (((3 : Int32) * x1) + (1 : Int32))), (0, .inl x0)]) hx hb dX9_greatestGapBelow_23 rfl hl (by decide) rfl (fun ls hl => ?_)
        refine lv_goto (tgt := 2) hx hb dX9_greatestGapBelow_24 (by decide) ?_
        exact ih S x0 (((3 : Int32) * x1) + (1 : Int32)) _ _ _ h hV (hl_sub hl [1, 0] rfl)
def fX9_greatestGapBelow (fu : Nat) (S : hS) (x0 : Int32) : Option (Int32 × hS) := fX9_greatestGapBelow_2 fu fu S x0 (1 : Int32)
set_option maxHeartbeats 4000000 in
set_option maxRecDepth 100000 in
theorem mX9_greatestGapBelow (l : Launch) (D : hD) (fu : Nat) (S : hS) (x0 : Int32) (z : Int32 × hS) (h : fX9_greatestGapBelow fu S x0 = some z) : hM l D yX9_greatestGapBelow cX9_greatestGapBelow 2 (some .int) 0 0 0 0 [.int x0] S (some (.int z.1)) z.2 := by
  refine h_body [.inl x0] RX9 (by decide) rfl (Nat.le_of_ble_eq_true rfl) ?_
  intro p e s m args below meth c C hin ls hV hl
  obtain ⟨-, hx, hb, hml, hown, hr, hlk, hK, hts⟩ := id C
  unfold fX9_greatestGapBelow at h
  refine lv_iconst (v := 1) hx hb dX9_greatestGapBelow_0 (by decide) ?_
  refine h_istore_n (tl' := [(1, .inl (1 : Int32)), (0, .inl x0)]) hx hb dX9_greatestGapBelow_1 rfl hl (by decide) rfl (fun ls hl => ?_)
  exact kX9_greatestGapBelow_2 C fu fu S x0 (1 : Int32) _ _ _ h hV (hl_sub hl [1, 0] rfl)
def fX9_sortingOf (fu : Nat) (S : hS) (a0 : Nat) (x1 : Option Nat) : Option (Option Nat × hS) := (gI S 4 1 x1).bind fun v1 => if v1 = 1 then ((gR (nO S 3) 8 0 (some a0)).bind fun v5 =>
(gR (nO S 3) 4 2 x1).bind fun v8 =>
bn2 (fX3_init fu (nO S 3) S.2 v5 v8) fun _ S12 =>
some ((some S.2), S12)) else if v1 = 2 then ((gR (nO S 5) 8 0 (some a0)).bind fun v16 =>
(gR (nO S 5) 4 2 x1).bind fun v19 =>
(gR (nO S 5) 4 3 x1).bind fun v22 =>
bn2 (fX5_init fu (nO S 5) S.2 v16 v19 v22) fun _ S26 =>
some ((some S.2), S26)) else if v1 = 3 then ((gR (nO S 2) 8 0 (some a0)).bind fun v30 =>
(gR (nO S 2) 4 2 x1).bind fun v33 =>
(gR (nO S 2) 4 2 x1).bind fun v36 =>
(gI (nO S 2) 1 1 v36).bind fun v39 =>
bn2 (fX9_greatestGapBelow fu (nO S 2) v39) fun r42 S43 =>
bn2 (fX2_init fu S43 S.2 v30 v33 r42) fun _ S47 =>
some ((some S.2), S47)) else if v1 = 4 then ((gR (nO S 6) 8 0 (some a0)).bind fun v51 =>
(gR (nO S 6) 4 2 x1).bind fun v54 =>
(gR (nO S 6) 4 3 x1).bind fun v57 =>
bn2 (fX6_init fu (nO S 6) S.2 v51 v54 v57) fun _ S61 =>
some ((some S.2), S61)) else ((gR (nO S 2) 8 0 (some a0)).bind fun v64 =>
(gR (nO S 2) 4 2 x1).bind fun v67 =>
bn2 (fX2_init fu (nO S 2) S.2 v64 v67 (1 : Int32)) fun _ S71 =>
some ((some S.2), S71))
set_option maxHeartbeats 4000000 in
set_option maxRecDepth 100000 in
theorem mX9_sortingOf (l : Launch) (D : hD) (fu : Nat) (S : hS) (a0 : Nat) (x1 : Option Nat) (z : Option Nat × hS) (h : fX9_sortingOf fu S a0 x1 = some z) : hM l D yX9_sortingOf cX9_sortingOf 2 (some (.object "SortKernel$Sorting")) 3 57 1 12 [va_rf (some a0), va_rf x1] S (some (va_rf z.1)) z.2 := by
  refine h_body [.inr (some a0), .inr x1] RX9 (by decide) rfl (Nat.le_of_ble_eq_true rfl) ?_
  intro p e s m args below meth c C hin ls hV hl
  obtain ⟨-, hx, hb, hml, hown, hr, hlk, hK, hts⟩ := id C
  unfold fX9_sortingOf at h
  refine hr_aload_n hx hb dX9_sortingOf_0 rfl (hr_at hl 1 rfl) ?_
  obtain ⟨v1, g2, h3⟩ := hbind h; clear h
  refine h_gI hx hb hown hV g2 (flRX9_142 hts hK) dX9_sortingOf_1 ?_
  by_cases c4 : v1 = 1
  · rw [if_pos c4] at h3
    refine lv_tableIn (off := 32) (tgt := 36) hx hb dX9_sortingOf_4 (by rw [c4]; decide) (by rw [c4]; decide) (by rw [c4]; rfl) (by decide) ?_
    refine h_new (ci := 3) (ty := tyX3) hx hb hts hK uwX3 tyX3_ok hown (hts _ wd326) (hts _ wd327) (hts _ wd87) rfl rfl hV (Nat.le_of_ble_eq_true rfl) (Nat.le_of_ble_eq_true rfl) dX9_sortingOf_36 (fun H hV => ?_)
    refine hr_dup hx hb dX9_sortingOf_39 ?_
    refine hr_aload_n hx hb dX9_sortingOf_40 rfl (hr_at hl 0 rfl) ?_
    obtain ⟨v5, g6, h7⟩ := hbind h3; clear h3
    refine h_gR hx hb hown hV g6 (flRX9_18 hts hK) dX9_sortingOf_41 ?_
    refine hr_aload_n hx hb dX9_sortingOf_44 rfl (hr_at hl 1 rfl) ?_
    obtain ⟨v8, g9, h10⟩ := hbind h7; clear h7
    refine h_gR hx hb hown hV g9 (flRX9_61 hts hK) dX9_sortingOf_45 ?_
    obtain ⟨r11, S12, g13, h14⟩ := hbn2 h10; clear h10
    refine h_callIN (b := S.2) (n := 2) (As := [va_rf v5, va_rf v8]) (rest := [va_rf (some S.2)]) (st1 := [va_rf (some S.2)]) (fr := 2) (lo := 34) (mc := 0) (ms := 0) C.1 hK hV wd330 (wo328 hK.2) wd329 wd87 rfl ⟨by decide, by decide, by decide⟩ ⟨(Nat.le_of_ble_eq_true rfl), (Nat.le_of_ble_eq_true rfl)⟩ rfl hl.1 (hW_ok [.inr (some S.2)] (Nat.le_of_ble_eq_true rfl)) dX9_sortingOf_48 ⟨(Nat.le_of_ble_eq_true rfl), (Nat.le_of_ble_eq_true rfl)⟩ rfl rfl (mX3_init l D fu (nO S 3) S.2 v5 v8 _ g13) (fun H locs hV => ?_)
    exact h_aret hx hb hr hlk hV h14 (Nat.le_of_ble_eq_true rfl) (Nat.le_of_ble_eq_true rfl) dX9_sortingOf_51
  · rw [if_neg c4] at h3
    by_cases c15 : v1 = 2
    · rw [if_pos c15] at h3
      refine lv_tableIn (off := 48) (tgt := 52) hx hb dX9_sortingOf_4 (by rw [c15]; decide) (by rw [c15]; decide) (by rw [c15]; rfl) (by decide) ?_
      refine h_new (ci := 5) (ty := tyX5) hx hb hts hK uwX5 tyX5_ok hown (hts _ wd386) (hts _ wd387) (hts _ wd88) rfl rfl hV (Nat.le_of_ble_eq_true rfl) (Nat.le_of_ble_eq_true rfl) dX9_sortingOf_52 (fun H hV => ?_)
      refine hr_dup hx hb dX9_sortingOf_55 ?_
      refine hr_aload_n hx hb dX9_sortingOf_56 rfl (hr_at hl 0 rfl) ?_
      obtain ⟨v16, g17, h18⟩ := hbind h3; clear h3
      refine h_gR hx hb hown hV g17 (flRX9_18 hts hK) dX9_sortingOf_57 ?_
      refine hr_aload_n hx hb dX9_sortingOf_60 rfl (hr_at hl 1 rfl) ?_
      obtain ⟨v19, g20, h21⟩ := hbind h18; clear h18
      refine h_gR hx hb hown hV g20 (flRX9_61 hts hK) dX9_sortingOf_61 ?_
      refine hr_aload_n hx hb dX9_sortingOf_64 rfl (hr_at hl 1 rfl) ?_
      obtain ⟨v22, g23, h24⟩ := hbind h21; clear h21
      refine h_gR hx hb hown hV g23 (flRX9_133 hts hK) dX9_sortingOf_65 ?_
      obtain ⟨r25, S26, g27, h28⟩ := hbn2 h24; clear h24
      refine h_callIN (b := S.2) (n := 3) (As := [va_rf v16, va_rf v19, va_rf v22]) (rest := [va_rf (some S.2)]) (st1 := [va_rf (some S.2)]) (fr := 2) (lo := 34) (mc := 0) (ms := 0) C.1 hK hV wd390 (wo388 hK.2) wd389 wd88 rfl ⟨by decide, by decide, by decide⟩ ⟨(Nat.le_of_ble_eq_true rfl), (Nat.le_of_ble_eq_true rfl)⟩ rfl hl.1 (hW_ok [.inr (some S.2)] (Nat.le_of_ble_eq_true rfl)) dX9_sortingOf_68 ⟨(Nat.le_of_ble_eq_true rfl), (Nat.le_of_ble_eq_true rfl)⟩ rfl rfl (mX5_init l D fu (nO S 5) S.2 v16 v19 v22 _ g27) (fun H locs hV => ?_)
      exact h_aret hx hb hr hlk hV h28 (Nat.le_of_ble_eq_true rfl) (Nat.le_of_ble_eq_true rfl) dX9_sortingOf_71
    · rw [if_neg c15] at h3
      by_cases c29 : v1 = 3
      · rw [if_pos c29] at h3
        refine lv_tableIn (off := 68) (tgt := 72) hx hb dX9_sortingOf_4 (by rw [c29]; decide) (by rw [c29]; decide) (by rw [c29]; rfl) (by decide) ?_
        refine h_new (ci := 2) (ty := tyX2) hx hb hts hK uwX2 tyX2_ok hown (hts _ wd421) (hts _ wd422) (hts _ wd89) rfl rfl hV (Nat.le_of_ble_eq_true rfl) (Nat.le_of_ble_eq_true rfl) dX9_sortingOf_72 (fun H hV => ?_)
        refine hr_dup hx hb dX9_sortingOf_75 ?_
        refine hr_aload_n hx hb dX9_sortingOf_76 rfl (hr_at hl 0 rfl) ?_
        obtain ⟨v30, g31, h32⟩ := hbind h3; clear h3
        refine h_gR hx hb hown hV g31 (flRX9_18 hts hK) dX9_sortingOf_77 ?_
        refine hr_aload_n hx hb dX9_sortingOf_80 rfl (hr_at hl 1 rfl) ?_
        obtain ⟨v33, g34, h35⟩ := hbind h32; clear h32
        refine h_gR hx hb hown hV g34 (flRX9_61 hts hK) dX9_sortingOf_81 ?_
        refine hr_aload_n hx hb dX9_sortingOf_84 rfl (hr_at hl 1 rfl) ?_
        obtain ⟨v36, g37, h38⟩ := hbind h35; clear h35
        refine h_gR hx hb hown hV g37 (flRX9_61 hts hK) dX9_sortingOf_85 ?_
        obtain ⟨v39, g40, h41⟩ := hbind h38; clear h38
        refine h_gI hx hb hown hV g40 (flRX9_139 hts hK) dX9_sortingOf_88 ?_
        obtain ⟨r42, S43, g44, h45⟩ := hbn2 h41; clear h41
        refine h_callS (n := 1) (As := [.int v39]) (rest := [va_rf v33, va_rf v30, va_rf (some S.2), va_rf (some S.2)]) (st1 := [.int r42, va_rf v33, va_rf v30, va_rf (some S.2), va_rf (some S.2)]) (fr := 0) (lo := 0) (mc := 0) (ms := 0) C.1 hK hV wd425 wd423 wd424 wd78 ⟨by decide, by decide, by decide⟩ ⟨(Nat.le_of_ble_eq_true rfl), (Nat.le_of_ble_eq_true rfl)⟩ rfl hl.1 (hW_ok [.inr v33, .inr v30, .inr (some S.2), .inr (some S.2)] (Nat.le_of_ble_eq_true rfl)) dX9_sortingOf_91 ⟨(Nat.le_of_ble_eq_true rfl), (Nat.le_of_ble_eq_true rfl)⟩ rfl rfl (mX9_greatestGapBelow l D fu (nO S 2) v39 _ g44) (fun H locs hV => ?_)
        obtain ⟨r46, S47, g48, h49⟩ := hbn2 h45; clear h45
        refine h_callIN (b := S.2) (n := 3) (As := [va_rf v30, va_rf v33, .int r42]) (rest := [va_rf (some S.2)]) (st1 := [va_rf (some S.2)]) (fr := 2) (lo := 34) (mc := 0) (ms := 0) C.1 hK hV wd428 (wo426 hK.2) wd427 wd89 rfl ⟨by decide, by decide, by decide⟩ ⟨(Nat.le_of_ble_eq_true rfl), (Nat.le_of_ble_eq_true rfl)⟩ rfl hl.1 (hW_ok [.inr (some S.2)] (Nat.le_of_ble_eq_true rfl)) dX9_sortingOf_94 ⟨(Nat.le_of_ble_eq_true rfl), (Nat.le_of_ble_eq_true rfl)⟩ rfl rfl (mX2_init l D fu S43 S.2 v30 v33 r42 _ g48) (fun H locs hV => ?_)
        exact h_aret hx hb hr hlk hV h49 (Nat.le_of_ble_eq_true rfl) (Nat.le_of_ble_eq_true rfl) dX9_sortingOf_97
      · rw [if_neg c29] at h3
        by_cases c50 : v1 = 4
        · rw [if_pos c50] at h3
          refine lv_tableIn (off := 94) (tgt := 98) hx hb dX9_sortingOf_4 (by rw [c50]; decide) (by rw [c50]; decide) (by rw [c50]; rfl) (by decide) ?_
          refine h_new (ci := 6) (ty := tyX6) hx hb hts hK uwX6 tyX6_ok hown (hts _ wd444) (hts _ wd445) (hts _ wd90) rfl rfl hV (Nat.le_of_ble_eq_true rfl) (Nat.le_of_ble_eq_true rfl) dX9_sortingOf_98 (fun H hV => ?_)
          refine hr_dup hx hb dX9_sortingOf_101 ?_
          refine hr_aload_n hx hb dX9_sortingOf_102 rfl (hr_at hl 0 rfl) ?_
          obtain ⟨v51, g52, h53⟩ := hbind h3; clear h3
          refine h_gR hx hb hown hV g52 (flRX9_18 hts hK) dX9_sortingOf_103 ?_
          refine hr_aload_n hx hb dX9_sortingOf_106 rfl (hr_at hl 1 rfl) ?_
          obtain ⟨v54, g55, h56⟩ := hbind h53; clear h53
          refine h_gR hx hb hown hV g55 (flRX9_61 hts hK) dX9_sortingOf_107 ?_
          refine hr_aload_n hx hb dX9_sortingOf_110 rfl (hr_at hl 1 rfl) ?_
          obtain ⟨v57, g58, h59⟩ := hbind h56; clear h56
          refine h_gR hx hb hown hV g58 (flRX9_133 hts hK) dX9_sortingOf_111 ?_
          obtain ⟨r60, S61, g62, h63⟩ := hbn2 h59; clear h59
          refine h_callIN (b := S.2) (n := 3) (As := [va_rf v51, va_rf v54, va_rf v57]) (rest := [va_rf (some S.2)]) (st1 := [va_rf (some S.2)]) (fr := 2) (lo := 34) (mc := 0) (ms := 0) C.1 hK hV wd448 (wo446 hK.2) wd447 wd90 rfl ⟨by decide, by decide, by decide⟩ ⟨(Nat.le_of_ble_eq_true rfl), (Nat.le_of_ble_eq_true rfl)⟩ rfl hl.1 (hW_ok [.inr (some S.2)] (Nat.le_of_ble_eq_true rfl)) dX9_sortingOf_114 ⟨(Nat.le_of_ble_eq_true rfl), (Nat.le_of_ble_eq_true rfl)⟩ rfl rfl (mX6_init l D fu (nO S 6) S.2 v51 v54 v57 _ g62) (fun H locs hV => ?_)
          exact h_aret hx hb hr hlk hV h63 (Nat.le_of_ble_eq_true rfl) (Nat.le_of_ble_eq_true rfl) dX9_sortingOf_117
        · rw [if_neg c50] at h3
          have ec4 : (v1).toInt ≠ 1 := h_tinj (k := 1) c4
          have ec15 : (v1).toInt ≠ 2 := h_tinj (k := 2) c15
          have ec29 : (v1).toInt ≠ 3 := h_tinj (k := 3) c29
          have ec50 : (v1).toInt ≠ 4 := h_tinj (k := 4) c50
          refine lv_tableOut (tgt := 118) hx hb dX9_sortingOf_4 (by omega) (by decide) ?_
          refine h_new (ci := 2) (ty := tyX2) hx hb hts hK uwX2 tyX2_ok hown (hts _ wd421) (hts _ wd422) (hts _ wd89) rfl rfl hV (Nat.le_of_ble_eq_true rfl) (Nat.le_of_ble_eq_true rfl) dX9_sortingOf_118 (fun H hV => ?_)
          refine hr_dup hx hb dX9_sortingOf_121 ?_
          refine hr_aload_n hx hb dX9_sortingOf_122 rfl (hr_at hl 0 rfl) ?_
          obtain ⟨v64, g65, h66⟩ := hbind h3; clear h3
          refine h_gR hx hb hown hV g65 (flRX9_18 hts hK) dX9_sortingOf_123 ?_
          refine hr_aload_n hx hb dX9_sortingOf_126 rfl (hr_at hl 1 rfl) ?_
          obtain ⟨v67, g68, h69⟩ := hbind h66; clear h66
          refine h_gR hx hb hown hV g68 (flRX9_61 hts hK) dX9_sortingOf_127 ?_
          refine lv_iconst (v := 1) hx hb dX9_sortingOf_130 (by decide) ?_
          obtain ⟨r70, S71, g72, h73⟩ := hbn2 h69; clear h69
          refine h_callIN (b := S.2) (n := 3) (As := [va_rf v64, va_rf v67, .int (1 : Int32)]) (rest := [va_rf (some S.2)]) (st1 := [va_rf (some S.2)]) (fr := 2) (lo := 34) (mc := 0) (ms := 0) C.1 hK hV wd428 (wo426 hK.2) wd427 wd89 rfl ⟨by decide, by decide, by decide⟩ ⟨(Nat.le_of_ble_eq_true rfl), (Nat.le_of_ble_eq_true rfl)⟩ rfl hl.1 (hW_ok [.inr (some S.2)] (Nat.le_of_ble_eq_true rfl)) dX9_sortingOf_131 ⟨(Nat.le_of_ble_eq_true rfl), (Nat.le_of_ble_eq_true rfl)⟩ rfl rfl (mX2_init l D fu (nO S 2) S.2 v64 v67 (1 : Int32) _ g72) (fun H locs hV => ?_)
          exact h_aret hx hb hr hlk hV h73 (Nat.le_of_ble_eq_true rfl) (Nat.le_of_ble_eq_true rfl) dX9_sortingOf_134
def dS_begin (fu : Nat) (S : hS) (r : Option Nat) : Option (Unit × hS) := if hk4 S r = 2 then r.bind (fun b => fX2_begin fu S b) else if hk4 S r = 3 then r.bind (fun b => fX3_begin fu S b) else if hk4 S r = 5 then r.bind (fun b => fX5_begin fu S b) else if hk4 S r = 6 then r.bind (fun b => fX6_begin fu S b) else none
set_option maxHeartbeats 4000000 in
set_option maxRecDepth 100000 in
theorem h_dS_begin_X9_submit {p : Program} {l : Launch} {e : Env} {s : State} {m : MethodId} {args : Array Value} {below : List Frame} {meth : Method} {c : Code} {H : Heap} {locs : List Loc} {cells slots : Nat} {Q : State → Prop} {cc : ByteArray} {nL pc fu : Nat} {ls : Array Slot} {rest : List Value} {D : hD} {A : Nat → Prop} {S S1 : hS} {r : Option Nat} {w : Unit} (F : hFix p m c cc nL s args RX9) (hK : h_K D s) (hV : h_V D A s S H locs) (hg : dS_begin fu S r = some (w, S1)) (hsz : ls.size = nL) (hW : (rest.map fun v => v.category).sum ≤ 8) (hdg : decode cc pc = .ok (.invokevirtual 104, 3)) (hcs : cells ≤ 1 ∧ slots ≤ 12)
    (kk : ∀ (H1 : Heap) (locs1 : List Loc), h_V D A s S1 H1 locs1 → W p l e { frames := 4, cells := 1, slots := 12, locals := 85 } s m args below meth c H1 locs1 cells slots Q (F0 m (pc + 3) ls rest)) : W p l e { frames := 4, cells := 1, slots := 12, locals := 85 } s m args below meth c H locs cells slots Q (F0 m pc ls (va_rf r :: rest)) := by
  have hts := F.ts
  unfold dS_begin at hg
  by_cases c2 : hk4 S r = 2
  · rw [if_pos c2] at hg
    obtain ⟨b, n, V, e1, q1⟩ := hk4_inv c2 (by decide)
    subst e1
    exact h_callU (owner := RX8) (x := ⟨"SortKernel$Sorting", "begin", "()V"⟩) (n := 0) (As := []) (rest := rest) (st1 := rest) (fr := 0) (lo := 0) (mc := 0) (ms := 0) F hK hV q1 rfl wd478 wd473 wd477 wd476 wd89 wd475 (va_Decl.abs (wo474 hK.2)) ⟨by decide, by decide⟩ ⟨by decide, by decide, by decide⟩ ⟨Nat.le_of_ble_eq_true rfl, Nat.le_of_ble_eq_true rfl⟩ rfl hsz hW hdg hcs rfl rfl (mX2_begin l D fu S b _ hg) kk
  · rw [if_neg c2] at hg
    by_cases c3 : hk4 S r = 3
    · rw [if_pos c3] at hg
      obtain ⟨b, n, V, e1, q1⟩ := hk4_inv c3 (by decide)
      subst e1
      exact h_callU (owner := RX8) (x := ⟨"SortKernel$Sorting", "begin", "()V"⟩) (n := 0) (As := []) (rest := rest) (st1 := rest) (fr := 1) (lo := 21) (mc := 0) (ms := 0) F hK hV q1 rfl wd481 wd473 wd480 wd479 wd87 wd475 (va_Decl.abs (wo474 hK.2)) ⟨by decide, by decide⟩ ⟨by decide, by decide, by decide⟩ ⟨Nat.le_of_ble_eq_true rfl, Nat.le_of_ble_eq_true rfl⟩ rfl hsz hW hdg hcs rfl rfl (mX3_begin l D fu S b _ hg) kk
    · rw [if_neg c3] at hg
      by_cases c5 : hk4 S r = 5
      · rw [if_pos c5] at hg
        obtain ⟨b, n, V, e1, q1⟩ := hk4_inv c5 (by decide)
        subst e1
        exact h_callU (owner := RX8) (x := ⟨"SortKernel$Sorting", "begin", "()V"⟩) (n := 0) (As := []) (rest := rest) (st1 := rest) (fr := 2) (lo := 35) (mc := 0) (ms := 0) F hK hV q1 rfl wd488 wd473 wd487 wd486 wd88 wd475 (va_Decl.abs (wo474 hK.2)) ⟨by decide, by decide⟩ ⟨by decide, by decide, by decide⟩ ⟨Nat.le_of_ble_eq_true rfl, Nat.le_of_ble_eq_true rfl⟩ rfl hsz hW hdg hcs rfl rfl (mX5_begin l D fu S b _ hg) kk
      · rw [if_neg c5] at hg
        by_cases c6 : hk4 S r = 6
        · rw [if_pos c6] at hg
          obtain ⟨b, n, V, e1, q1⟩ := hk4_inv c6 (by decide)
          subst e1
          exact h_callU (owner := RX8) (x := ⟨"SortKernel$Sorting", "begin", "()V"⟩) (n := 0) (As := []) (rest := rest) (st1 := rest) (fr := 3) (lo := 65) (mc := 0) (ms := 0) F hK hV q1 rfl wd496 wd473 wd495 wd494 wd90 wd475 (va_Decl.abs (wo474 hK.2)) ⟨by decide, by decide⟩ ⟨by decide, by decide, by decide⟩ ⟨Nat.le_of_ble_eq_true rfl, Nat.le_of_ble_eq_true rfl⟩ rfl hsz hW hdg hcs rfl rfl (mX6_begin l D fu S b _ hg) kk
        · rw [if_neg c6] at hg
          cases hg
def fX9_submit (fu : Nat) (S : hS) (a0 : Nat) (x1 : Int32) : Option (Int32 × hS) := (rcv S 8 (some a0)).bind fun b3 => bn2 (fX9_find fu S b3 x1) fun r1 S2 => if r1 = none then (some ((-1 : Int32), S2)) else ((gI S2 4 5 r1).bind fun v10 =>
if v10 = (1 : Int32) then ((pV S2 4 5 r1 (.int (2 : Int32))).bind fun S14 =>
(gI S14 8 4 (some a0)).bind fun v17 =>
(pV S14 4 7 r1 (.int v17)).bind fun S20 =>
(rcv S20 8 (some a0)).bind fun b25 =>
bn2 (fX9_sortingOf fu S20 b25 r1) fun r23 S24 =>
(pV S24 4 9 r1 (va_rf r23)).bind fun S31 =>
bn2 (dS_begin fu S31 r23) fun _ S35 =>
(gR S35 8 2 (some a0)).bind fun v38 =>
(rcv S35 7 v38).bind fun b43 =>
bn2 (fX7_enter fu S35 b43 r1) fun _ S42 =>
some ((0 : Int32), S42)) else (some ((-3 : Int32), S2)))
set_option maxHeartbeats 4000000 in
set_option maxRecDepth 100000 in
theorem mX9_submit (l : Launch) (D : hD) (fu : Nat) (S : hS) (a0 : Nat) (x1 : Int32) (z : Int32 × hS) (h : fX9_submit fu S a0 x1 = some z) : hM l D yX9_submit cX9_submit 4 (some .int) 4 85 1 12 [va_rf (some a0), .int x1] S (some (.int z.1)) z.2 := by
  refine h_body [.inr (some a0), .inl x1] RX9 (by decide) rfl (Nat.le_of_ble_eq_true rfl) ?_
  intro p e s m args below meth c C hin ls hV hl
  obtain ⟨-, hx, hb, hml, hown, hr, hlk, hK, hts⟩ := id C
  unfold fX9_submit at h
  refine hr_aload_n hx hb dX9_submit_0 rfl (hr_at hl 0 rfl) ?_
  refine lv_iload_n hx hb dX9_submit_1 rfl (hi_at hl 1 rfl) ?_
  obtain ⟨b3, g4, h5⟩ := hbind h; clear h
  obtain ⟨_, _, e6, q6⟩ := rcv_inv g4
  obtain ⟨r1, S2, g7, h8⟩ := hbn2 h5; clear h5
  refine h_callV (n := 1) (As := [.int x1]) (rest := []) (st1 := [va_rf r1]) (fr := 0) (lo := 0) (mc := 0) (ms := 0) C.1 hK hV q6 rfl rfl wd293 wd290 wd292 wd9 wd78 ⟨by decide, by decide, by decide⟩ ⟨(Nat.le_of_ble_eq_true rfl), (Nat.le_of_ble_eq_true rfl)⟩ rfl hl.1 (hW_ok [] (Nat.le_of_ble_eq_true rfl)) dX9_submit_2 ⟨(Nat.le_of_ble_eq_true rfl), (Nat.le_of_ble_eq_true rfl)⟩ rfl (by rw [e6]; rfl) (mX9_find l D fu S b3 x1 _ g7) (fun H locs hV => ?_)
  refine h_astore_n (tl' := [(2, .inr r1), (0, .inr (some a0)), (1, .inl x1)]) hx hb dX9_submit_5 rfl hl (by decide) rfl (fun ls hl => ?_)
  refine hr_aload_n hx hb dX9_submit_6 rfl (hr_at hl 0 rfl) ?_
  refine hr_ifnonnull (tgt := 12) hx hb dX9_submit_7 (by decide) (fun c9 => ?_) (fun c9 => ?_)
  · rw [if_neg c9] at h8
    refine hr_aload_n hx hb dX9_submit_12 rfl (hr_at hl 0 rfl) ?_
    obtain ⟨v10, g11, h12⟩ := hbind h8; clear h8
    refine h_gI hx hb hown hV g11 (flRX9_78 hts hK) dX9_submit_13 ?_
    refine lv_iconst (v := 1) hx hb dX9_submit_16 (by decide) ?_
    refine lv_icmp_eq (tgt := 23) hx hb dX9_submit_17 (by decide) (fun c13 => ?_) (fun c13 => ?_)
    · rw [if_pos c13] at h12
      refine hr_aload_n hx hb dX9_submit_23 rfl (hr_at hl 0 rfl) ?_
      refine lv_iconst (v := 2) hx hb dX9_submit_24 (by decide) ?_
      obtain ⟨S14, g15, h16⟩ := hbind h12; clear h12
      refine h_put hx hb hown hV g15 (fpRX9_78 hts hK) rfl rfl dX9_submit_25 (fun H locs hV => ?_)
      refine hr_aload_n hx hb dX9_submit_28 rfl (hr_at hl 0 rfl) ?_
      refine hr_aload_n hx hb dX9_submit_29 rfl (hr_at hl 1 rfl) ?_
      obtain ⟨v17, g18, h19⟩ := hbind h16; clear h16
      refine h_gI hx hb hown hV g18 (flRX9_90 hts hK) dX9_submit_30 ?_
      obtain ⟨S20, g21, h22⟩ := hbind h19; clear h19
      refine h_put hx hb hown hV g21 (fpRX9_93 hts hK) rfl rfl dX9_submit_33 (fun H locs hV => ?_)
      refine hr_aload_n hx hb dX9_submit_36 rfl (hr_at hl 1 rfl) ?_
      refine hr_aload_n hx hb dX9_submit_37 rfl (hr_at hl 0 rfl) ?_
      obtain ⟨b25, g26, h27⟩ := hbind h22; clear h22
      obtain ⟨_, _, e28, q28⟩ := rcv_inv g26
      obtain ⟨r23, S24, g29, h30⟩ := hbn2 h27; clear h27
      refine h_callV (n := 1) (As := [va_rf r1]) (rest := []) (st1 := [va_rf r23]) (fr := 3) (lo := 57) (mc := 1) (ms := 12) C.1 hK hV q28 rfl rfl wd325 wd322 wd324 wd14 wd78 ⟨by decide, by decide, by decide⟩ ⟨(Nat.le_of_ble_eq_true rfl), (Nat.le_of_ble_eq_true rfl)⟩ rfl hl.1 (hW_ok [] (Nat.le_of_ble_eq_true rfl)) dX9_submit_38 ⟨(Nat.le_of_ble_eq_true rfl), (Nat.le_of_ble_eq_true rfl)⟩ rfl (by rw [e28]; rfl) (mX9_sortingOf l D fu S20 b25 r1 _ g29) (fun H locs hV => ?_)
      refine h_astore_n (tl' := [(3, .inr r23), (2, .inr r1), (0, .inr (some a0)), (1, .inl x1)]) hx hb dX9_submit_41 rfl hl (by decide) rfl (fun ls hl => ?_)
      refine hr_aload_n hx hb dX9_submit_42 rfl (hr_at hl 1 rfl) ?_
      refine hr_aload_n hx hb dX9_submit_43 rfl (hr_at hl 0 rfl) ?_
      obtain ⟨S31, g32, h33⟩ := hbind h30; clear h30
      refine h_put hx hb hown hV g32 (fpRX9_100 hts hK) (h_narO _) (h_fitO _) dX9_submit_44 (fun H locs hV => ?_)
      refine hr_aload_n hx hb dX9_submit_47 rfl (hr_at hl 0 rfl) ?_
      obtain ⟨r34, S35, g36, h37⟩ := hbn2 h33; clear h33
      refine h_dS_begin_X9_submit (rest := []) C.1 hK hV g36 hl.1 (hW_ok [] (Nat.le_of_ble_eq_true rfl)) dX9_submit_48 ⟨(Nat.le_of_ble_eq_true rfl), (Nat.le_of_ble_eq_true rfl)⟩ (fun H locs hV => ?_)
      refine hr_aload_n hx hb dX9_submit_51 rfl (hr_at hl 2 rfl) ?_
      obtain ⟨v38, g39, h40⟩ := hbind h37; clear h37
      refine h_gR hx hb hown hV g39 (flRX9_31 hts hK) dX9_submit_52 ?_
      refine hr_aload_n hx hb dX9_submit_55 rfl (hr_at hl 1 rfl) ?_
      obtain ⟨b43, g44, h45⟩ := hbind h40; clear h40
      obtain ⟨_, _, e46, q46⟩ := rcv_inv g44
      obtain ⟨r41, S42, g47, h48⟩ := hbn2 h45; clear h45
      refine h_callVN (n := 1) (As := [va_rf r1]) (rest := []) (st1 := []) (fr := 0) (lo := 0) (mc := 0) (ms := 0) C.1 hK hV q46 rfl rfl wd514 (wo511 hK.2) wd513 wd19 wd82 ⟨by decide, by decide, by decide⟩ ⟨(Nat.le_of_ble_eq_true rfl), (Nat.le_of_ble_eq_true rfl)⟩ rfl hl.1 (hW_ok [] (Nat.le_of_ble_eq_true rfl)) dX9_submit_56 ⟨(Nat.le_of_ble_eq_true rfl), (Nat.le_of_ble_eq_true rfl)⟩ rfl (by rw [e46]; rfl) (mX7_enter l D fu S35 b43 r1 _ g47) (fun H locs hV => ?_)
      refine lv_iconst (v := 0) hx hb dX9_submit_59 (by decide) ?_
      exact h_iret hx hb hr hlk hV h48 (Nat.le_of_ble_eq_true rfl) (Nat.le_of_ble_eq_true rfl) dX9_submit_60
    · rw [if_neg c13] at h12
      refine lv_bipush (v := -3) hx hb dX9_submit_20 (by decide) ?_
      exact h_iret hx hb hr hlk hV h12 (Nat.le_of_ble_eq_true rfl) (Nat.le_of_ble_eq_true rfl) dX9_submit_22
  · rw [if_pos c9] at h8
    refine lv_iconst (v := -1) hx hb dX9_submit_10 (by decide) ?_
    exact h_iret hx hb hr hlk hV h8 (Nat.le_of_ble_eq_true rfl) (Nat.le_of_ble_eq_true rfl) dX9_submit_11
def fX9_takeTurn (fu : Nat) (S : hS) (a0 : Nat) : Option (Int32 × hS) := (gI S 8 4 (some a0)).bind fun v1 => (pV S 8 4 (some a0) (.int (v1 + (1 : Int32)))).bind fun S4 => (gR S4 8 2 (some a0)).bind fun v7 => (gR S4 7 0 v7).bind fun v10 => if v10 = none then (some ((-1 : Int32), S4)) else ((gR S4 8 2 (some a0)).bind fun v14 =>
(rcv S4 7 v14).bind fun b19 =>
bn2 (fX7_leave fu S4 b19 v10) fun _ S18 =>
(gI S18 8 5 (some a0)).bind fun v25 =>
(gI S18 8 3 (some a0)).bind fun v28 =>
(rcv S18 4 v10).bind fun b33 =>
bn2 (fX4_compareUpTo fu S18 b33 v28) fun r31 S32 =>
(pV S32 8 5 (some a0) (.int (v25 + r31))).bind fun S39 =>
(rcv S39 4 v10).bind fun b44 =>
bn2 (fX4_isSorted fu S39 b44) fun r42 S43 =>
if r42 = 0 then ((gR S43 8 2 (some a0)).bind fun v51 =>
(rcv S43 7 v51).bind fun b56 =>
bn2 (fX7_enter fu S43 b56 v10) fun _ S55 =>
(gI S55 4 0 v10).bind fun v62 =>
some (v62, S55)) else ((pV S43 4 5 v10 (.int (3 : Int32))).bind fun S65 =>
(gI S65 8 4 (some a0)).bind fun v68 =>
(pV S65 4 8 v10 (.int v68)).bind fun S71 =>
(gI S71 4 0 v10).bind fun v74 =>
some (v74, S71)))
set_option maxHeartbeats 4000000 in
set_option maxRecDepth 100000 in
theorem mX9_takeTurn (l : Launch) (D : hD) (fu : Nat) (S : hS) (a0 : Nat) (z : Int32 × hS) (h : fX9_takeTurn fu S a0 = some z) : hM l D yX9_takeTurn cX9_takeTurn 2 (some .int) 6 128 0 0 [va_rf (some a0)] S (some (.int z.1)) z.2 := by
  refine h_body [.inr (some a0)] RX9 (by decide) rfl (Nat.le_of_ble_eq_true rfl) ?_
  intro p e s m args below meth c C hin ls hV hl
  obtain ⟨-, hx, hb, hml, hown, hr, hlk, hK, hts⟩ := id C
  unfold fX9_takeTurn at h
  refine hr_aload_n hx hb dX9_takeTurn_0 rfl (hr_at hl 0 rfl) ?_
  refine hr_dup hx hb dX9_takeTurn_1 ?_
  obtain ⟨v1, g2, h3⟩ := hbind h; clear h
  refine h_gI hx hb hown hV g2 (flRX9_90 hts hK) dX9_takeTurn_2 ?_
  refine lv_iconst (v := 1) hx hb dX9_takeTurn_5 (by decide) ?_
  refine lv_iadd hx hb dX9_takeTurn_6 ?_
  obtain ⟨S4, g5, h6⟩ := hbind h3; clear h3
  refine h_put hx hb hown hV g5 (fpRX9_90 hts hK) rfl rfl dX9_takeTurn_7 (fun H locs hV => ?_)
  refine hr_aload_n hx hb dX9_takeTurn_10 rfl (hr_at hl 0 rfl) ?_
  obtain ⟨v7, g8, h9⟩ := hbind h6; clear h6
  refine h_gR hx hb hown hV g8 (flRX9_31 hts hK) dX9_takeTurn_11 ?_
  obtain ⟨v10, g11, h12⟩ := hbind h9; clear h9
  refine h_gR hx hb hown hV g11 (flRX9_116 hts hK) dX9_takeTurn_14 ?_
  refine h_astore_n (tl' := [(1, .inr v10), (0, .inr (some a0))]) hx hb dX9_takeTurn_17 rfl hl (by decide) rfl (fun ls hl => ?_)
  refine hr_aload_n hx hb dX9_takeTurn_18 rfl (hr_at hl 0 rfl) ?_
  refine hr_ifnonnull (tgt := 24) hx hb dX9_takeTurn_19 (by decide) (fun c13 => ?_) (fun c13 => ?_)
  · rw [if_neg c13] at h12
    refine hr_aload_n hx hb dX9_takeTurn_24 rfl (hr_at hl 1 rfl) ?_
    obtain ⟨v14, g15, h16⟩ := hbind h12; clear h12
    refine h_gR hx hb hown hV g15 (flRX9_31 hts hK) dX9_takeTurn_25 ?_
    refine hr_aload_n hx hb dX9_takeTurn_28 rfl (hr_at hl 0 rfl) ?_
    obtain ⟨b19, g20, h21⟩ := hbind h16; clear h16
    obtain ⟨_, _, e22, q22⟩ := rcv_inv g20
    obtain ⟨r17, S18, g23, h24⟩ := hbn2 h21; clear h21
    refine h_callVN (n := 1) (As := [va_rf v10]) (rest := []) (st1 := []) (fr := 1) (lo := 22) (mc := 0) (ms := 0) C.1 hK hV q22 rfl rfl wd526 (wo523 hK.2) wd525 wd21 wd82 ⟨by decide, by decide, by decide⟩ ⟨(Nat.le_of_ble_eq_true rfl), (Nat.le_of_ble_eq_true rfl)⟩ rfl hl.1 (hW_ok [] (Nat.le_of_ble_eq_true rfl)) dX9_takeTurn_29 ⟨(Nat.le_of_ble_eq_true rfl), (Nat.le_of_ble_eq_true rfl)⟩ rfl (by rw [e22]; rfl) (mX7_leave l D fu S4 b19 v10 _ g23) (fun H locs hV => ?_)
    refine hr_aload_n hx hb dX9_takeTurn_32 rfl (hr_at hl 1 rfl) ?_
    refine hr_dup hx hb dX9_takeTurn_33 ?_
    obtain ⟨v25, g26, h27⟩ := hbind h24; clear h24
    refine h_gI hx hb hown hV g26 (flRX9_170 hts hK) dX9_takeTurn_34 ?_
    refine hr_aload_n hx hb dX9_takeTurn_37 rfl (hr_at hl 0 rfl) ?_
    refine hr_aload_n hx hb dX9_takeTurn_38 rfl (hr_at hl 1 rfl) ?_
    obtain ⟨v28, g29, h30⟩ := hbind h27; clear h27
    refine h_gI hx hb hown hV g29 (flRX9_35 hts hK) dX9_takeTurn_39 ?_
    obtain ⟨b33, g34, h35⟩ := hbind h30; clear h30
    obtain ⟨_, _, e36, q36⟩ := rcv_inv g34
    obtain ⟨r31, S32, g37, h38⟩ := hbn2 h35; clear h35
    refine h_callVN (n := 1) (As := [.int v28]) (rest := [.int v25, va_rf (some a0)]) (st1 := [.int r31, .int v25, va_rf (some a0)]) (fr := 5) (lo := 106) (mc := 0) (ms := 0) C.1 hK hV q36 rfl rfl wd534 (wo531 hK.2) wd533 wd23 wd84 ⟨by decide, by decide, by decide⟩ ⟨(Nat.le_of_ble_eq_true rfl), (Nat.le_of_ble_eq_true rfl)⟩ rfl hl.1 (hW_ok [.inl v25, .inr (some a0)] (Nat.le_of_ble_eq_true rfl)) dX9_takeTurn_42 ⟨(Nat.le_of_ble_eq_true rfl), (Nat.le_of_ble_eq_true rfl)⟩ rfl (by rw [e36]; rfl) (mX4_compareUpTo l D fu S18 b33 v28 _ g37) (fun H locs hV => ?_)
    refine lv_iadd hx hb dX9_takeTurn_45 ?_
    obtain ⟨S39, g40, h41⟩ := hbind h38; clear h38
    refine h_put hx hb hown hV g40 (fpRX9_170 hts hK) rfl rfl dX9_takeTurn_46 (fun H locs hV => ?_)
    refine hr_aload_n hx hb dX9_takeTurn_49 rfl (hr_at hl 0 rfl) ?_
    obtain ⟨b44, g45, h46⟩ := hbind h41; clear h41
    obtain ⟨_, _, e47, q47⟩ := rcv_inv g45
    obtain ⟨r42, S43, g48, h49⟩ := hbn2 h46; clear h46
    refine h_callVN (n := 0) (As := []) (rest := []) (st1 := [.int r42]) (fr := 0) (lo := 0) (mc := 0) (ms := 0) C.1 hK hV q47 rfl rfl wd620 (wo617 hK.2) wd619 wd35 wd84 ⟨by decide, by decide, by decide⟩ ⟨(Nat.le_of_ble_eq_true rfl), (Nat.le_of_ble_eq_true rfl)⟩ rfl hl.1 (hW_ok [] (Nat.le_of_ble_eq_true rfl)) dX9_takeTurn_50 ⟨(Nat.le_of_ble_eq_true rfl), (Nat.le_of_ble_eq_true rfl)⟩ rfl (by rw [e47]; rfl) (mX4_isSorted l D fu S39 b44 _ g48) (fun H locs hV => ?_)
    refine lv_if_eq (tgt := 72) hx hb dX9_takeTurn_53 (by decide) (fun c50 => ?_) (fun c50 => ?_)
    · rw [if_pos c50] at h49
      refine hr_aload_n hx hb dX9_takeTurn_72 rfl (hr_at hl 1 rfl) ?_
      obtain ⟨v51, g52, h53⟩ := hbind h49; clear h49
      refine h_gR hx hb hown hV g52 (flRX9_31 hts hK) dX9_takeTurn_73 ?_
      refine hr_aload_n hx hb dX9_takeTurn_76 rfl (hr_at hl 0 rfl) ?_
      obtain ⟨b56, g57, h58⟩ := hbind h53; clear h53
      obtain ⟨_, _, e59, q59⟩ := rcv_inv g57
      obtain ⟨r54, S55, g60, h61⟩ := hbn2 h58; clear h58
      refine h_callVN (n := 1) (As := [va_rf v10]) (rest := []) (st1 := []) (fr := 0) (lo := 0) (mc := 0) (ms := 0) C.1 hK hV q59 rfl rfl wd514 (wo511 hK.2) wd513 wd19 wd82 ⟨by decide, by decide, by decide⟩ ⟨(Nat.le_of_ble_eq_true rfl), (Nat.le_of_ble_eq_true rfl)⟩ rfl hl.1 (hW_ok [] (Nat.le_of_ble_eq_true rfl)) dX9_takeTurn_77 ⟨(Nat.le_of_ble_eq_true rfl), (Nat.le_of_ble_eq_true rfl)⟩ rfl (by rw [e59]; rfl) (mX7_enter l D fu S43 b56 v10 _ g60) (fun H locs hV => ?_)
      refine hr_aload_n hx hb dX9_takeTurn_80 rfl (hr_at hl 0 rfl) ?_
      obtain ⟨v62, g63, h64⟩ := hbind h61; clear h61
      refine h_gI hx hb hown hV g63 (flRX9_226 hts hK) dX9_takeTurn_81 ?_
      exact h_iret hx hb hr hlk hV h64 (Nat.le_of_ble_eq_true rfl) (Nat.le_of_ble_eq_true rfl) dX9_takeTurn_84
    · rw [if_neg c50] at h49
      refine hr_aload_n hx hb dX9_takeTurn_56 rfl (hr_at hl 0 rfl) ?_
      refine lv_iconst (v := 3) hx hb dX9_takeTurn_57 (by decide) ?_
      obtain ⟨S65, g66, h67⟩ := hbind h49; clear h49
      refine h_put hx hb hown hV g66 (fpRX9_78 hts hK) rfl rfl dX9_takeTurn_58 (fun H locs hV => ?_)
      refine hr_aload_n hx hb dX9_takeTurn_61 rfl (hr_at hl 0 rfl) ?_
      refine hr_aload_n hx hb dX9_takeTurn_62 rfl (hr_at hl 1 rfl) ?_
      obtain ⟨v68, g69, h70⟩ := hbind h67; clear h67
      refine h_gI hx hb hown hV g69 (flRX9_90 hts hK) dX9_takeTurn_63 ?_
      obtain ⟨S71, g72, h73⟩ := hbind h70; clear h70
      refine h_put hx hb hown hV g72 (fpRX9_152 hts hK) rfl rfl dX9_takeTurn_66 (fun H locs hV => ?_)
      refine lv_goto (tgt := 80) hx hb dX9_takeTurn_69 (by decide) ?_
      refine hr_aload_n hx hb dX9_takeTurn_80 rfl (hr_at hl 0 rfl) ?_
      obtain ⟨v74, g75, h76⟩ := hbind h73; clear h73
      refine h_gI hx hb hown hV g75 (flRX9_226 hts hK) dX9_takeTurn_81 ?_
      exact h_iret hx hb hr hlk hV h76 (Nat.le_of_ble_eq_true rfl) (Nat.le_of_ble_eq_true rfl) dX9_takeTurn_84
  · rw [if_pos c13] at h12
    refine lv_iconst (v := -1) hx hb dX9_takeTurn_22 (by decide) ?_
    exact h_iret hx hb hr hlk hV h12 (Nat.le_of_ble_eq_true rfl) (Nat.le_of_ble_eq_true rfl) dX9_takeTurn_23
def fX9_tick (fu : Nat) (S : hS) (a0 : Nat) : Option (Int32 × hS) := (rcv S 8 (some a0)).bind fun b3 => bn2 (fX9_takeTurn fu S b3) fun r1 S2 => some (r1, S2)
set_option maxHeartbeats 4000000 in
set_option maxRecDepth 100000 in
theorem mX9_tick (l : Launch) (D : hD) (fu : Nat) (S : hS) (a0 : Nat) (z : Int32 × hS) (h : fX9_tick fu S a0 = some z) : hM l D yX9_tick cX9_tick 1 (some .int) 7 149 0 0 [va_rf (some a0)] S (some (.int z.1)) z.2 := by
  refine h_body [.inr (some a0)] RX9 (by decide) rfl (Nat.le_of_ble_eq_true rfl) ?_
  intro p e s m args below meth c C hin ls hV hl
  obtain ⟨-, hx, hb, hml, hown, hr, hlk, hK, hts⟩ := id C
  unfold fX9_tick at h
  refine hr_aload_n hx hb dX9_tick_0 rfl (hr_at hl 0 rfl) ?_
  obtain ⟨b3, g4, h5⟩ := hbind h; clear h
  obtain ⟨_, _, e6, q6⟩ := rcv_inv g4
  obtain ⟨r1, S2, g7, h8⟩ := hbn2 h5; clear h5
  refine h_callV (n := 0) (As := []) (rest := []) (st1 := [.int r1]) (fr := 6) (lo := 128) (mc := 0) (ms := 0) C.1 hK hV q6 rfl rfl wd522 wd519 wd521 wd20 wd78 ⟨by decide, by decide, by decide⟩ ⟨(Nat.le_of_ble_eq_true rfl), (Nat.le_of_ble_eq_true rfl)⟩ rfl hl.1 (hW_ok [] (Nat.le_of_ble_eq_true rfl)) dX9_tick_1 ⟨(Nat.le_of_ble_eq_true rfl), (Nat.le_of_ble_eq_true rfl)⟩ rfl (by rw [e6]; rfl) (mX9_takeTurn l D fu S b3 _ g7) (fun H locs hV => ?_)
  exact h_iret hx hb hr hlk hV h8 (Nat.le_of_ble_eq_true rfl) (Nat.le_of_ble_eq_true rfl) dX9_tick_4
def fX9_run_16 (fu : Nat) : Nat → hS → Nat → Int32 → Int32 → Option (Int32 × hS)
  | 0, _, _, _, _ => none
  | n + 1, S, a0, x1, x2 => if x1 ≤ x2 then (some (x2, S)) else ((gR S 8 2 (some a0)).bind fun v2 =>
(gR S 7 0 v2).bind fun v5 =>
if v5 = none then (some (x2, S)) else ((rcv S 8 (some a0)).bind fun b11 =>
bn2 (fX9_takeTurn fu S b11) fun r9 S10 =>
fX9_run_16 fu n S10 a0 x1 (x2 + (1 : Int32))))
set_option maxHeartbeats 4000000 in
set_option maxRecDepth 100000 in
theorem kX9_run_16 {p : Program} {l : Launch} {e : Env} {s : State} {m : MethodId} {args : Array Value} {below : List Frame} {meth : Method} {c : Code} {D : hD} {S0 : hS} {z : Int32 × hS} (C : hCx p m c cX9_run 3 s args RX9 meth (some .int) D) (fu : Nat) : ∀ (n : Nat) (S : hS) (a0 : Nat) (x1 : Int32) (x2 : Int32) (H : Heap) (locs : List Loc) (ls : Array Slot), fX9_run_16 fu n S a0 x1 x2 = some z → h_V D (h_A S0) s S H locs → hl_has ls 3 [(0, .inr (some a0)), (1, .inl x1), (2, .inl x2)] → W p l e { frames := 7, cells := 0, slots := 0, locals := 149 } s m args below meth c H locs 0 0 (MQ below (h_Q D (h_A S0) (some (.int z.1)) z.2) args s 0 0 (h_A S0)) (F0 m 16 ls []) := by
  obtain ⟨-, hx, hb, hml, hown, hr, hlk, hK, hts⟩ := id C
  intro n
  induction n with
  | zero =>
    intro S a0 x1 x2 _ _ _ h hV hl
    rw [fX9_run_16] at h
    cases h
  | succ n ih =>
    intro S a0 x1 x2 _ _ _ h hV hl
    rw [fX9_run_16] at h
    refine lv_iload_n hx hb dX9_run_16 rfl (hi_at hl 2 rfl) ?_
    refine lv_iload_n hx hb dX9_run_17 rfl (hi_at hl 1 rfl) ?_
    refine lv_icmp_ge (tgt := 42) hx hb dX9_run_18 (by decide) (fun c1 => ?_) (fun c1 => ?_)
    · rw [if_pos c1] at h
      refine lv_iload_n hx hb dX9_run_42 rfl (hi_at hl 2 rfl) ?_
      exact h_iret hx hb hr hlk hV h (Nat.le_of_ble_eq_true rfl) (Nat.le_of_ble_eq_true rfl) dX9_run_43
    · rw [if_neg c1] at h
      refine hr_aload_n hx hb dX9_run_21 rfl (hr_at hl 0 rfl) ?_
      obtain ⟨v2, g3, h4⟩ := hbind h; clear h
      refine h_gR hx hb hown hV g3 (flRX9_31 hts hK) dX9_run_22 ?_
      obtain ⟨v5, g6, h7⟩ := hbind h4; clear h4
      refine h_gR hx hb hown hV g6 (flRX9_116 hts hK) dX9_run_25 ?_
      refine hr_ifnull (tgt := 42) hx hb dX9_run_28 (by decide) (fun c8 => ?_) (fun c8 => ?_)
      · rw [if_pos c8] at h7
        refine lv_iload_n hx hb dX9_run_42 rfl (hi_at hl 2 rfl) ?_
        exact h_iret hx hb hr hlk hV h7 (Nat.le_of_ble_eq_true rfl) (Nat.le_of_ble_eq_true rfl) dX9_run_43
      · rw [if_neg c8] at h7
        refine hr_aload_n hx hb dX9_run_31 rfl (hr_at hl 0 rfl) ?_
        obtain ⟨b11, g12, h13⟩ := hbind h7; clear h7
        obtain ⟨_, _, e14, q14⟩ := rcv_inv g12
        obtain ⟨r9, S10, g15, h16⟩ := hbn2 h13; clear h13
        refine h_callV (n := 0) (As := []) (rest := []) (st1 := [.int r9]) (fr := 6) (lo := 128) (mc := 0) (ms := 0) C.1 hK hV q14 rfl rfl wd522 wd519 wd521 wd20 wd78 ⟨by decide, by decide, by decide⟩ ⟨(Nat.le_of_ble_eq_true rfl), (Nat.le_of_ble_eq_true rfl)⟩ rfl hl.1 (hW_ok [] (Nat.le_of_ble_eq_true rfl)) dX9_run_32 ⟨(Nat.le_of_ble_eq_true rfl), (Nat.le_of_ble_eq_true rfl)⟩ rfl (by rw [e14]; rfl) (mX9_takeTurn l D fu S b11 _ g15) (fun H locs hV => ?_)
        refine lv_pop hx hb dX9_run_35 rfl ?_
        refine h_iinc (v := (x2 + (1 : Int32))) (tl' := [(2, .inl (x2 + (1 : Int32))), (0, .inr (some a0)), (1, .inl x1)]) hx hb dX9_run_36 hl (k := 2) rfl rfl (by decide) rfl (fun ls hl => ?_)
        refine lv_goto (tgt := 16) hx hb dX9_run_39 (by decide) ?_
        exact ih S10 a0 x1 (x2 + (1 : Int32)) _ _ _ h16 hV (hl_sub hl [1, 2, 0] rfl)
def fX9_run (fu : Nat) (S : hS) (a0 : Nat) (x1 : Int32) : Option (Int32 × hS) := bn2 (fX9_isBetween fu S x1 (0 : Int32) (3000 : Int32)) fun r1 S2 => if r1 = 0 then (some ((-4 : Int32), S2)) else (fX9_run_16 fu fu S2 a0 x1 (0 : Int32))
set_option maxHeartbeats 4000000 in
set_option maxRecDepth 100000 in
theorem mX9_run (l : Launch) (D : hD) (fu : Nat) (S : hS) (a0 : Nat) (x1 : Int32) (z : Int32 × hS) (h : fX9_run fu S a0 x1 = some z) : hM l D yX9_run cX9_run 3 (some .int) 7 149 0 0 [va_rf (some a0), .int x1] S (some (.int z.1)) z.2 := by
  refine h_body [.inr (some a0), .inl x1] RX9 (by decide) rfl (Nat.le_of_ble_eq_true rfl) ?_
  intro p e s m args below meth c C hin ls hV hl
  obtain ⟨-, hx, hb, hml, hown, hr, hlk, hK, hts⟩ := id C
  unfold fX9_run at h
  refine lv_iload_n hx hb dX9_run_0 rfl (hi_at hl 1 rfl) ?_
  refine lv_iconst (v := 0) hx hb dX9_run_1 (by decide) ?_
  refine lv_sipush (v := 3000) hx hb dX9_run_2 (by decide) ?_
  obtain ⟨r1, S2, g3, h4⟩ := hbn2 h; clear h
  refine h_callS (n := 3) (As := [.int x1, .int (0 : Int32), .int (3000 : Int32)]) (rest := []) (st1 := [.int r1]) (fr := 0) (lo := 0) (mc := 0) (ms := 0) C.1 hK hV wd191 wd189 wd190 wd78 ⟨by decide, by decide, by decide⟩ ⟨(Nat.le_of_ble_eq_true rfl), (Nat.le_of_ble_eq_true rfl)⟩ rfl hl.1 (hW_ok [] (Nat.le_of_ble_eq_true rfl)) dX9_run_5 ⟨(Nat.le_of_ble_eq_true rfl), (Nat.le_of_ble_eq_true rfl)⟩ rfl rfl (mX9_isBetween l D fu S x1 (0 : Int32) (3000 : Int32) _ g3) (fun H locs hV => ?_)
  refine lv_if_ne (tgt := 14) hx hb dX9_run_8 (by decide) (fun c5 => ?_) (fun c5 => ?_)
  · rw [if_neg c5] at h4
    refine lv_iconst (v := 0) hx hb dX9_run_14 (by decide) ?_
    refine h_istore_n (tl' := [(2, .inl (0 : Int32)), (0, .inr (some a0)), (1, .inl x1)]) hx hb dX9_run_15 rfl hl (by decide) rfl (fun ls hl => ?_)
    exact kX9_run_16 C fu fu S2 a0 x1 (0 : Int32) _ _ _ h4 hV (hl_sub hl [1, 2, 0] rfl)
  · rw [if_pos c5] at h4
    refine lv_bipush (v := -4) hx hb dX9_run_11 (by decide) ?_
    exact h_iret hx hb hr hlk hV h4 (Nat.le_of_ble_eq_true rfl) (Nat.le_of_ble_eq_true rfl) dX9_run_13
def fX9_state (fu : Nat) (S : hS) (a0 : Nat) (x1 : Int32) : Option (Int32 × hS) := (rcv S 8 (some a0)).bind fun b3 => bn2 (fX9_find fu S b3 x1) fun r1 S2 => if r1 = none then (some ((-1 : Int32), S2)) else ((gI S2 4 5 r1).bind fun v10 =>
some (v10, S2))
set_option maxHeartbeats 4000000 in
set_option maxRecDepth 100000 in
theorem mX9_state (l : Launch) (D : hD) (fu : Nat) (S : hS) (a0 : Nat) (x1 : Int32) (z : Int32 × hS) (h : fX9_state fu S a0 x1 = some z) : hM l D yX9_state cX9_state 3 (some .int) 1 21 0 0 [va_rf (some a0), .int x1] S (some (.int z.1)) z.2 := by
  refine h_body [.inr (some a0), .inl x1] RX9 (by decide) rfl (Nat.le_of_ble_eq_true rfl) ?_
  intro p e s m args below meth c C hin ls hV hl
  obtain ⟨-, hx, hb, hml, hown, hr, hlk, hK, hts⟩ := id C
  unfold fX9_state at h
  refine hr_aload_n hx hb dX9_state_0 rfl (hr_at hl 0 rfl) ?_
  refine lv_iload_n hx hb dX9_state_1 rfl (hi_at hl 1 rfl) ?_
  obtain ⟨b3, g4, h5⟩ := hbind h; clear h
  obtain ⟨_, _, e6, q6⟩ := rcv_inv g4
  obtain ⟨r1, S2, g7, h8⟩ := hbn2 h5; clear h5
  refine h_callV (n := 1) (As := [.int x1]) (rest := []) (st1 := [va_rf r1]) (fr := 0) (lo := 0) (mc := 0) (ms := 0) C.1 hK hV q6 rfl rfl wd293 wd290 wd292 wd9 wd78 ⟨by decide, by decide, by decide⟩ ⟨(Nat.le_of_ble_eq_true rfl), (Nat.le_of_ble_eq_true rfl)⟩ rfl hl.1 (hW_ok [] (Nat.le_of_ble_eq_true rfl)) dX9_state_2 ⟨(Nat.le_of_ble_eq_true rfl), (Nat.le_of_ble_eq_true rfl)⟩ rfl (by rw [e6]; rfl) (mX9_find l D fu S b3 x1 _ g7) (fun H locs hV => ?_)
  refine h_astore_n (tl' := [(2, .inr r1), (0, .inr (some a0)), (1, .inl x1)]) hx hb dX9_state_5 rfl hl (by decide) rfl (fun ls hl => ?_)
  refine hr_aload_n hx hb dX9_state_6 rfl (hr_at hl 0 rfl) ?_
  refine hr_ifnonnull (tgt := 14) hx hb dX9_state_7 (by decide) (fun c9 => ?_) (fun c9 => ?_)
  · rw [if_neg c9] at h8
    refine hr_aload_n hx hb dX9_state_14 rfl (hr_at hl 0 rfl) ?_
    obtain ⟨v10, g11, h12⟩ := hbind h8; clear h8
    refine h_gI hx hb hown hV g11 (flRX9_78 hts hK) dX9_state_15 ?_
    exact h_iret hx hb hr hlk hV h12 (Nat.le_of_ble_eq_true rfl) (Nat.le_of_ble_eq_true rfl) dX9_state_18
  · rw [if_pos c9] at h8
    refine lv_iconst (v := -1) hx hb dX9_state_10 (by decide) ?_
    refine lv_goto (tgt := 18) hx hb dX9_state_11 (by decide) ?_
    exact h_iret hx hb hr hlk hV h8 (Nat.le_of_ble_eq_true rfl) (Nat.le_of_ble_eq_true rfl) dX9_state_18
def fX9_get (fu : Nat) (S : hS) (a0 : Nat) (x1 : Int32) (x2 : Int32) : Option (Int32 × hS) := (rcv S 8 (some a0)).bind fun b3 => bn2 (fX9_find fu S b3 x1) fun r1 S2 => if r1 = none then (some ((0 : Int32), S2)) else ((rcv S2 4 r1).bind fun b12 =>
bn2 (fX4_hasNumber fu S2 b12 x2) fun r10 S11 =>
if r10 = 0 then (some ((0 : Int32), S11)) else ((gR S11 8 0 (some a0)).bind fun v19 =>
(gR S11 4 2 r1).bind fun v22 =>
(gI S11 1 0 v22).bind fun v25 =>
(rcv S11 0 v19).bind fun b30 =>
bn2 (fX0_read fu S11 b30 (v25 + x2)) fun r28 S29 =>
some (r28, S29)))
set_option maxHeartbeats 4000000 in
set_option maxRecDepth 100000 in
theorem mX9_get (l : Launch) (D : hD) (fu : Nat) (S : hS) (a0 : Nat) (x1 : Int32) (x2 : Int32) (z : Int32 × hS) (h : fX9_get fu S a0 x1 x2 = some z) : hM l D yX9_get cX9_get 4 (some .int) 1 21 0 0 [va_rf (some a0), .int x1, .int x2] S (some (.int z.1)) z.2 := by
  refine h_body [.inr (some a0), .inl x1, .inl x2] RX9 (by decide) rfl (Nat.le_of_ble_eq_true rfl) ?_
  intro p e s m args below meth c C hin ls hV hl
  obtain ⟨-, hx, hb, hml, hown, hr, hlk, hK, hts⟩ := id C
  unfold fX9_get at h
  refine hr_aload_n hx hb dX9_get_0 rfl (hr_at hl 0 rfl) ?_
  refine lv_iload_n hx hb dX9_get_1 rfl (hi_at hl 1 rfl) ?_
  obtain ⟨b3, g4, h5⟩ := hbind h; clear h
  obtain ⟨_, _, e6, q6⟩ := rcv_inv g4
  obtain ⟨r1, S2, g7, h8⟩ := hbn2 h5; clear h5
  refine h_callV (n := 1) (As := [.int x1]) (rest := []) (st1 := [va_rf r1]) (fr := 0) (lo := 0) (mc := 0) (ms := 0) C.1 hK hV q6 rfl rfl wd293 wd290 wd292 wd9 wd78 ⟨by decide, by decide, by decide⟩ ⟨(Nat.le_of_ble_eq_true rfl), (Nat.le_of_ble_eq_true rfl)⟩ rfl hl.1 (hW_ok [] (Nat.le_of_ble_eq_true rfl)) dX9_get_2 ⟨(Nat.le_of_ble_eq_true rfl), (Nat.le_of_ble_eq_true rfl)⟩ rfl (by rw [e6]; rfl) (mX9_find l D fu S b3 x1 _ g7) (fun H locs hV => ?_)
  refine h_astore_n (tl' := [(3, .inr r1), (0, .inr (some a0)), (1, .inl x1), (2, .inl x2)]) hx hb dX9_get_5 rfl hl (by decide) rfl (fun ls hl => ?_)
  refine hr_aload_n hx hb dX9_get_6 rfl (hr_at hl 0 rfl) ?_
  refine hr_ifnull (tgt := 18) hx hb dX9_get_7 (by decide) (fun c9 => ?_) (fun c9 => ?_)
  · rw [if_pos c9] at h8
    refine lv_iconst (v := 0) hx hb dX9_get_18 (by decide) ?_
    exact h_iret hx hb hr hlk hV h8 (Nat.le_of_ble_eq_true rfl) (Nat.le_of_ble_eq_true rfl) dX9_get_19
  · rw [if_neg c9] at h8
    refine hr_aload_n hx hb dX9_get_10 rfl (hr_at hl 0 rfl) ?_
    refine lv_iload_n hx hb dX9_get_11 rfl (hi_at hl 3 rfl) ?_
    obtain ⟨b12, g13, h14⟩ := hbind h8; clear h8
    obtain ⟨_, _, e15, q15⟩ := rcv_inv g13
    obtain ⟨r10, S11, g16, h17⟩ := hbn2 h14; clear h14
    refine h_callVN (n := 1) (As := [.int x2]) (rest := []) (st1 := [.int r10]) (fr := 0) (lo := 0) (mc := 0) (ms := 0) C.1 hK hV q15 rfl rfl wd297 (wo294 hK.2) wd296 wd10 wd84 ⟨by decide, by decide, by decide⟩ ⟨(Nat.le_of_ble_eq_true rfl), (Nat.le_of_ble_eq_true rfl)⟩ rfl hl.1 (hW_ok [] (Nat.le_of_ble_eq_true rfl)) dX9_get_12 ⟨(Nat.le_of_ble_eq_true rfl), (Nat.le_of_ble_eq_true rfl)⟩ rfl (by rw [e15]; rfl) (mX4_hasNumber l D fu S2 b12 x2 _ g16) (fun H locs hV => ?_)
    refine lv_if_ne (tgt := 20) hx hb dX9_get_15 (by decide) (fun c18 => ?_) (fun c18 => ?_)
    · rw [if_neg c18] at h17
      refine hr_aload_n hx hb dX9_get_20 rfl (hr_at hl 1 rfl) ?_
      obtain ⟨v19, g20, h21⟩ := hbind h17; clear h17
      refine h_gR hx hb hown hV g20 (flRX9_18 hts hK) dX9_get_21 ?_
      refine hr_aload_n hx hb dX9_get_24 rfl (hr_at hl 0 rfl) ?_
      obtain ⟨v22, g23, h24⟩ := hbind h21; clear h21
      refine h_gR hx hb hown hV g23 (flRX9_61 hts hK) dX9_get_25 ?_
      obtain ⟨v25, g26, h27⟩ := hbind h24; clear h24
      refine h_gI hx hb hown hV g26 (flRX9_65 hts hK) dX9_get_28 ?_
      refine lv_iload_n hx hb dX9_get_31 rfl (hi_at hl 3 rfl) ?_
      refine lv_iadd hx hb dX9_get_32 ?_
      obtain ⟨b30, g31, h32⟩ := hbind h27; clear h27
      obtain ⟨_, _, e33, q33⟩ := rcv_inv g31
      obtain ⟨r28, S29, g34, h35⟩ := hbn2 h32; clear h32
      refine h_callVN (n := 1) (As := [.int (v25 + x2)]) (rest := []) (st1 := [.int r28]) (fr := 0) (lo := 0) (mc := 0) (ms := 0) C.1 hK hV q33 rfl rfl wd550 (wo633 hK.2) wd549 wd24 wd79 ⟨by decide, by decide, by decide⟩ ⟨(Nat.le_of_ble_eq_true rfl), (Nat.le_of_ble_eq_true rfl)⟩ rfl hl.1 (hW_ok [] (Nat.le_of_ble_eq_true rfl)) dX9_get_33 ⟨(Nat.le_of_ble_eq_true rfl), (Nat.le_of_ble_eq_true rfl)⟩ rfl (by rw [e33]; rfl) (mX0_read l D fu S11 b30 (v25 + x2) _ g34) (fun H locs hV => ?_)
      exact h_iret hx hb hr hlk hV h35 (Nat.le_of_ble_eq_true rfl) (Nat.le_of_ble_eq_true rfl) dX9_get_36
    · rw [if_pos c18] at h17
      refine lv_iconst (v := 0) hx hb dX9_get_18 (by decide) ?_
      exact h_iret hx hb hr hlk hV h17 (Nat.le_of_ble_eq_true rfl) (Nat.le_of_ble_eq_true rfl) dX9_get_19
def fX9_cancel (fu : Nat) (S : hS) (a0 : Nat) (x1 : Int32) : Option (Int32 × hS) := (rcv S 8 (some a0)).bind fun b3 => bn2 (fX9_find fu S b3 x1) fun r1 S2 => if r1 = none then (some ((-1 : Int32), S2)) else ((gI S2 4 5 r1).bind fun v10 =>
if v10 = (2 : Int32) then ((gR S2 8 2 (some a0)).bind fun v14 =>
(rcv S2 7 v14).bind fun b19 =>
bn2 (fX7_leave fu S2 b19 r1) fun _ S18 =>
(pV S18 4 5 r1 (.int (4 : Int32))).bind fun S25 =>
some ((0 : Int32), S25)) else (some ((-3 : Int32), S2)))
set_option maxHeartbeats 4000000 in
set_option maxRecDepth 100000 in
theorem mX9_cancel (l : Launch) (D : hD) (fu : Nat) (S : hS) (a0 : Nat) (x1 : Int32) (z : Int32 × hS) (h : fX9_cancel fu S a0 x1 = some z) : hM l D yX9_cancel cX9_cancel 3 (some .int) 2 45 0 0 [va_rf (some a0), .int x1] S (some (.int z.1)) z.2 := by
  refine h_body [.inr (some a0), .inl x1] RX9 (by decide) rfl (Nat.le_of_ble_eq_true rfl) ?_
  intro p e s m args below meth c C hin ls hV hl
  obtain ⟨-, hx, hb, hml, hown, hr, hlk, hK, hts⟩ := id C
  unfold fX9_cancel at h
  refine hr_aload_n hx hb dX9_cancel_0 rfl (hr_at hl 0 rfl) ?_
  refine lv_iload_n hx hb dX9_cancel_1 rfl (hi_at hl 1 rfl) ?_
  obtain ⟨b3, g4, h5⟩ := hbind h; clear h
  obtain ⟨_, _, e6, q6⟩ := rcv_inv g4
  obtain ⟨r1, S2, g7, h8⟩ := hbn2 h5; clear h5
  refine h_callV (n := 1) (As := [.int x1]) (rest := []) (st1 := [va_rf r1]) (fr := 0) (lo := 0) (mc := 0) (ms := 0) C.1 hK hV q6 rfl rfl wd293 wd290 wd292 wd9 wd78 ⟨by decide, by decide, by decide⟩ ⟨(Nat.le_of_ble_eq_true rfl), (Nat.le_of_ble_eq_true rfl)⟩ rfl hl.1 (hW_ok [] (Nat.le_of_ble_eq_true rfl)) dX9_cancel_2 ⟨(Nat.le_of_ble_eq_true rfl), (Nat.le_of_ble_eq_true rfl)⟩ rfl (by rw [e6]; rfl) (mX9_find l D fu S b3 x1 _ g7) (fun H locs hV => ?_)
  refine h_astore_n (tl' := [(2, .inr r1), (0, .inr (some a0)), (1, .inl x1)]) hx hb dX9_cancel_5 rfl hl (by decide) rfl (fun ls hl => ?_)
  refine hr_aload_n hx hb dX9_cancel_6 rfl (hr_at hl 0 rfl) ?_
  refine hr_ifnonnull (tgt := 12) hx hb dX9_cancel_7 (by decide) (fun c9 => ?_) (fun c9 => ?_)
  · rw [if_neg c9] at h8
    refine hr_aload_n hx hb dX9_cancel_12 rfl (hr_at hl 0 rfl) ?_
    obtain ⟨v10, g11, h12⟩ := hbind h8; clear h8
    refine h_gI hx hb hown hV g11 (flRX9_78 hts hK) dX9_cancel_13 ?_
    refine lv_iconst (v := 2) hx hb dX9_cancel_16 (by decide) ?_
    refine lv_icmp_eq (tgt := 23) hx hb dX9_cancel_17 (by decide) (fun c13 => ?_) (fun c13 => ?_)
    · rw [if_pos c13] at h12
      refine hr_aload_n hx hb dX9_cancel_23 rfl (hr_at hl 1 rfl) ?_
      obtain ⟨v14, g15, h16⟩ := hbind h12; clear h12
      refine h_gR hx hb hown hV g15 (flRX9_31 hts hK) dX9_cancel_24 ?_
      refine hr_aload_n hx hb dX9_cancel_27 rfl (hr_at hl 0 rfl) ?_
      obtain ⟨b19, g20, h21⟩ := hbind h16; clear h16
      obtain ⟨_, _, e22, q22⟩ := rcv_inv g20
      obtain ⟨r17, S18, g23, h24⟩ := hbn2 h21; clear h21
      refine h_callVN (n := 1) (As := [va_rf r1]) (rest := []) (st1 := []) (fr := 1) (lo := 22) (mc := 0) (ms := 0) C.1 hK hV q22 rfl rfl wd526 (wo523 hK.2) wd525 wd21 wd82 ⟨by decide, by decide, by decide⟩ ⟨(Nat.le_of_ble_eq_true rfl), (Nat.le_of_ble_eq_true rfl)⟩ rfl hl.1 (hW_ok [] (Nat.le_of_ble_eq_true rfl)) dX9_cancel_28 ⟨(Nat.le_of_ble_eq_true rfl), (Nat.le_of_ble_eq_true rfl)⟩ rfl (by rw [e22]; rfl) (mX7_leave l D fu S2 b19 r1 _ g23) (fun H locs hV => ?_)
      refine hr_aload_n hx hb dX9_cancel_31 rfl (hr_at hl 0 rfl) ?_
      refine lv_iconst (v := 4) hx hb dX9_cancel_32 (by decide) ?_
      obtain ⟨S25, g26, h27⟩ := hbind h24; clear h24
      refine h_put hx hb hown hV g26 (fpRX9_78 hts hK) rfl rfl dX9_cancel_33 (fun H locs hV => ?_)
      refine lv_iconst (v := 0) hx hb dX9_cancel_36 (by decide) ?_
      exact h_iret hx hb hr hlk hV h27 (Nat.le_of_ble_eq_true rfl) (Nat.le_of_ble_eq_true rfl) dX9_cancel_37
    · rw [if_neg c13] at h12
      refine lv_bipush (v := -3) hx hb dX9_cancel_20 (by decide) ?_
      exact h_iret hx hb hr hlk hV h12 (Nat.le_of_ble_eq_true rfl) (Nat.le_of_ble_eq_true rfl) dX9_cancel_22
  · rw [if_pos c9] at h8
    refine lv_iconst (v := -1) hx hb dX9_cancel_10 (by decide) ?_
    exact h_iret hx hb hr hlk hV h8 (Nat.le_of_ble_eq_true rfl) (Nat.le_of_ble_eq_true rfl) dX9_cancel_11
def fX9_raise_41 (fu : Nat) (S : hS) (a0 : Nat) (x2 : Int32) (x3 : Option Nat) : Option (Int32 × hS) := (gR S 8 2 (some a0)).bind fun v1 => (rcv S 7 v1).bind fun b6 => bn2 (fX7_leave fu S b6 x3) fun _ S5 => (pV S5 4 4 x3 (.int x2)).bind fun S12 => (gI S12 4 5 x3).bind fun v15 => if v15 = (2 : Int32) then ((gR S12 8 2 (some a0)).bind fun v19 =>
(rcv S12 7 v19).bind fun b24 =>
bn2 (fX7_enter fu S12 b24 x3) fun _ S23 =>
some ((0 : Int32), S23)) else (some ((0 : Int32), S12))
set_option maxHeartbeats 4000000 in
set_option maxRecDepth 100000 in
theorem kX9_raise_41 {p : Program} {l : Launch} {e : Env} {s : State} {m : MethodId} {args : Array Value} {below : List Frame} {meth : Method} {c : Code} {D : hD} {S0 : hS} {z : Int32 × hS} (C : hCx p m c cX9_raise 4 s args RX9 meth (some .int) D) (fu : Nat) : ∀ (S : hS) (a0 : Nat) (x2 : Int32) (x3 : Option Nat) (H : Heap) (locs : List Loc) (ls : Array Slot), fX9_raise_41 fu S a0 x2 x3 = some z → h_V D (h_A S0) s S H locs → hl_has ls 4 [(0, .inr (some a0)), (2, .inl x2), (3, .inr x3)] → W p l e { frames := 2, cells := 0, slots := 0, locals := 45 } s m args below meth c H locs 0 0 (MQ below (h_Q D (h_A S0) (some (.int z.1)) z.2) args s 0 0 (h_A S0)) (F0 m 41 ls []) := by
  obtain ⟨-, hx, hb, hml, hown, hr, hlk, hK, hts⟩ := id C
  intro S a0 x2 x3 _ _ _ h hV hl
  unfold fX9_raise_41 at h
  refine hr_aload_n hx hb dX9_raise_41 rfl (hr_at hl 0 rfl) ?_
  obtain ⟨v1, g2, h3⟩ := hbind h; clear h
  refine h_gR hx hb hown hV g2 (flRX9_31 hts hK) dX9_raise_42 ?_
  refine hr_aload_n hx hb dX9_raise_45 rfl (hr_at hl 2 rfl) ?_
  obtain ⟨b6, g7, h8⟩ := hbind h3; clear h3
  obtain ⟨_, _, e9, q9⟩ := rcv_inv g7
  obtain ⟨r4, S5, g10, h11⟩ := hbn2 h8; clear h8
  refine h_callVN (n := 1) (As := [va_rf x3]) (rest := []) (st1 := []) (fr := 1) (lo := 22) (mc := 0) (ms := 0) C.1 hK hV q9 rfl rfl wd526 (wo523 hK.2) wd525 wd21 wd82 ⟨by decide, by decide, by decide⟩ ⟨(Nat.le_of_ble_eq_true rfl), (Nat.le_of_ble_eq_true rfl)⟩ rfl hl.1 (hW_ok [] (Nat.le_of_ble_eq_true rfl)) dX9_raise_46 ⟨(Nat.le_of_ble_eq_true rfl), (Nat.le_of_ble_eq_true rfl)⟩ rfl (by rw [e9]; rfl) (mX7_leave l D fu S b6 x3 _ g10) (fun H locs hV => ?_)
  refine hr_aload_n hx hb dX9_raise_49 rfl (hr_at hl 2 rfl) ?_
  refine lv_iload_n hx hb dX9_raise_50 rfl (hi_at hl 1 rfl) ?_
  obtain ⟨S12, g13, h14⟩ := hbind h11; clear h11
  refine h_put hx hb hown hV g13 (fpRX9_126 hts hK) rfl rfl dX9_raise_51 (fun H locs hV => ?_)
  refine hr_aload_n hx hb dX9_raise_54 rfl (hr_at hl 2 rfl) ?_
  obtain ⟨v15, g16, h17⟩ := hbind h14; clear h14
  refine h_gI hx hb hown hV g16 (flRX9_78 hts hK) dX9_raise_55 ?_
  refine lv_iconst (v := 2) hx hb dX9_raise_58 (by decide) ?_
  refine lv_icmp_ne (tgt := 70) hx hb dX9_raise_59 (by decide) (fun c18 => ?_) (fun c18 => ?_)
  · rw [if_neg c18] at h17
    refine lv_iconst (v := 0) hx hb dX9_raise_70 (by decide) ?_
    exact h_iret hx hb hr hlk hV h17 (Nat.le_of_ble_eq_true rfl) (Nat.le_of_ble_eq_true rfl) dX9_raise_71
  · rw [if_pos c18] at h17
    refine hr_aload_n hx hb dX9_raise_62 rfl (hr_at hl 0 rfl) ?_
    obtain ⟨v19, g20, h21⟩ := hbind h17; clear h17
    refine h_gR hx hb hown hV g20 (flRX9_31 hts hK) dX9_raise_63 ?_
    refine hr_aload_n hx hb dX9_raise_66 rfl (hr_at hl 2 rfl) ?_
    obtain ⟨b24, g25, h26⟩ := hbind h21; clear h21
    obtain ⟨_, _, e27, q27⟩ := rcv_inv g25
    obtain ⟨r22, S23, g28, h29⟩ := hbn2 h26; clear h26
    refine h_callVN (n := 1) (As := [va_rf x3]) (rest := []) (st1 := []) (fr := 0) (lo := 0) (mc := 0) (ms := 0) C.1 hK hV q27 rfl rfl wd514 (wo511 hK.2) wd513 wd19 wd82 ⟨by decide, by decide, by decide⟩ ⟨(Nat.le_of_ble_eq_true rfl), (Nat.le_of_ble_eq_true rfl)⟩ rfl hl.1 (hW_ok [] (Nat.le_of_ble_eq_true rfl)) dX9_raise_67 ⟨(Nat.le_of_ble_eq_true rfl), (Nat.le_of_ble_eq_true rfl)⟩ rfl (by rw [e27]; rfl) (mX7_enter l D fu S12 b24 x3 _ g28) (fun H locs hV => ?_)
    refine lv_iconst (v := 0) hx hb dX9_raise_70 (by decide) ?_
    exact h_iret hx hb hr hlk hV h29 (Nat.le_of_ble_eq_true rfl) (Nat.le_of_ble_eq_true rfl) dX9_raise_71
def fX9_raise (fu : Nat) (S : hS) (a0 : Nat) (x1 : Int32) (x2 : Int32) : Option (Int32 × hS) := (rcv S 8 (some a0)).bind fun b3 => bn2 (fX9_find fu S b3 x1) fun r1 S2 => if r1 = none then (some ((-1 : Int32), S2)) else (bn2 (fX9_isPriority fu S2 x2) fun r10 S11 =>
if r10 = 0 then (some ((-4 : Int32), S11)) else ((gI S11 4 5 r1).bind fun v15 =>
if v15 = (1 : Int32) then (fX9_raise_41 fu S11 a0 x2 r1) else ((gI S11 4 5 r1).bind fun v19 =>
if v19 = (2 : Int32) then (fX9_raise_41 fu S11 a0 x2 r1) else (some ((-3 : Int32), S11)))))
set_option maxHeartbeats 4000000 in
set_option maxRecDepth 100000 in
theorem mX9_raise (l : Launch) (D : hD) (fu : Nat) (S : hS) (a0 : Nat) (x1 : Int32) (x2 : Int32) (z : Int32 × hS) (h : fX9_raise fu S a0 x1 x2 = some z) : hM l D yX9_raise cX9_raise 4 (some .int) 2 45 0 0 [va_rf (some a0), .int x1, .int x2] S (some (.int z.1)) z.2 := by
  refine h_body [.inr (some a0), .inl x1, .inl x2] RX9 (by decide) rfl (Nat.le_of_ble_eq_true rfl) ?_
  intro p e s m args below meth c C hin ls hV hl
  obtain ⟨-, hx, hb, hml, hown, hr, hlk, hK, hts⟩ := id C
  unfold fX9_raise at h
  refine hr_aload_n hx hb dX9_raise_0 rfl (hr_at hl 0 rfl) ?_
  refine lv_iload_n hx hb dX9_raise_1 rfl (hi_at hl 1 rfl) ?_
  obtain ⟨b3, g4, h5⟩ := hbind h; clear h
  obtain ⟨_, _, e6, q6⟩ := rcv_inv g4
  obtain ⟨r1, S2, g7, h8⟩ := hbn2 h5; clear h5
  refine h_callV (n := 1) (As := [.int x1]) (rest := []) (st1 := [va_rf r1]) (fr := 0) (lo := 0) (mc := 0) (ms := 0) C.1 hK hV q6 rfl rfl wd293 wd290 wd292 wd9 wd78 ⟨by decide, by decide, by decide⟩ ⟨(Nat.le_of_ble_eq_true rfl), (Nat.le_of_ble_eq_true rfl)⟩ rfl hl.1 (hW_ok [] (Nat.le_of_ble_eq_true rfl)) dX9_raise_2 ⟨(Nat.le_of_ble_eq_true rfl), (Nat.le_of_ble_eq_true rfl)⟩ rfl (by rw [e6]; rfl) (mX9_find l D fu S b3 x1 _ g7) (fun H locs hV => ?_)
  refine h_astore_n (tl' := [(3, .inr r1), (0, .inr (some a0)), (1, .inl x1), (2, .inl x2)]) hx hb dX9_raise_5 rfl hl (by decide) rfl (fun ls hl => ?_)
  refine hr_aload_n hx hb dX9_raise_6 rfl (hr_at hl 0 rfl) ?_
  refine hr_ifnonnull (tgt := 12) hx hb dX9_raise_7 (by decide) (fun c9 => ?_) (fun c9 => ?_)
  · rw [if_neg c9] at h8
    refine lv_iload_n hx hb dX9_raise_12 rfl (hi_at hl 3 rfl) ?_
    obtain ⟨r10, S11, g12, h13⟩ := hbn2 h8; clear h8
    refine h_callS (n := 1) (As := [.int x2]) (rest := []) (st1 := [.int r10]) (fr := 1) (lo := 22) (mc := 0) (ms := 0) C.1 hK hV wd194 wd192 wd193 wd78 ⟨by decide, by decide, by decide⟩ ⟨(Nat.le_of_ble_eq_true rfl), (Nat.le_of_ble_eq_true rfl)⟩ rfl hl.1 (hW_ok [] (Nat.le_of_ble_eq_true rfl)) dX9_raise_13 ⟨(Nat.le_of_ble_eq_true rfl), (Nat.le_of_ble_eq_true rfl)⟩ rfl rfl (mX9_isPriority l D fu S2 x2 _ g12) (fun H locs hV => ?_)
    refine lv_if_ne (tgt := 22) hx hb dX9_raise_16 (by decide) (fun c14 => ?_) (fun c14 => ?_)
    · rw [if_neg c14] at h13
      refine hr_aload_n hx hb dX9_raise_22 rfl (hr_at hl 0 rfl) ?_
      obtain ⟨v15, g16, h17⟩ := hbind h13; clear h13
      refine h_gI hx hb hown hV g16 (flRX9_78 hts hK) dX9_raise_23 ?_
      refine lv_iconst (v := 1) hx hb dX9_raise_26 (by decide) ?_
      refine lv_icmp_eq (tgt := 41) hx hb dX9_raise_27 (by decide) (fun c18 => ?_) (fun c18 => ?_)
      · rw [if_pos c18] at h17
        exact kX9_raise_41 C fu S11 a0 x2 r1 _ _ _ h17 hV (hl_sub hl [1, 3, 0] rfl)
      · rw [if_neg c18] at h17
        refine hr_aload_n hx hb dX9_raise_30 rfl (hr_at hl 0 rfl) ?_
        obtain ⟨v19, g20, h21⟩ := hbind h17; clear h17
        refine h_gI hx hb hown hV g20 (flRX9_78 hts hK) dX9_raise_31 ?_
        refine lv_iconst (v := 2) hx hb dX9_raise_34 (by decide) ?_
        refine lv_icmp_eq (tgt := 41) hx hb dX9_raise_35 (by decide) (fun c22 => ?_) (fun c22 => ?_)
        · rw [if_pos c22] at h21
          exact kX9_raise_41 C fu S11 a0 x2 r1 _ _ _ h21 hV (hl_sub hl [1, 3, 0] rfl)
        · rw [if_neg c22] at h21
          refine lv_bipush (v := -3) hx hb dX9_raise_38 (by decide) ?_
          exact h_iret hx hb hr hlk hV h21 (Nat.le_of_ble_eq_true rfl) (Nat.le_of_ble_eq_true rfl) dX9_raise_40
    · rw [if_pos c14] at h13
      refine lv_bipush (v := -4) hx hb dX9_raise_19 (by decide) ?_
      exact h_iret hx hb hr hlk hV h13 (Nat.le_of_ble_eq_true rfl) (Nat.le_of_ble_eq_true rfl) dX9_raise_21
  · rw [if_pos c9] at h8
    refine lv_iconst (v := -1) hx hb dX9_raise_10 (by decide) ?_
    exact h_iret hx hb hr hlk hV h8 (Nat.le_of_ble_eq_true rfl) (Nat.le_of_ble_eq_true rfl) dX9_raise_11
def fX9_close (fu : Nat) (S : hS) (a0 : Nat) (x1 : Int32) : Option (Int32 × hS) := (rcv S 8 (some a0)).bind fun b3 => bn2 (fX9_find fu S b3 x1) fun r1 S2 => if r1 = none then (some ((-1 : Int32), S2)) else ((gI S2 4 5 r1).bind fun v10 =>
if v10 = (2 : Int32) then (some ((-3 : Int32), S2)) else ((gR S2 8 0 (some a0)).bind fun v14 =>
(gR S2 4 2 r1).bind fun v17 =>
(rcv S2 0 v14).bind fun b22 =>
bn2 (fX0_giveBack fu S2 b22 v17) fun _ S21 =>
(gR S21 8 0 (some a0)).bind fun v28 =>
(gR S21 4 3 r1).bind fun v31 =>
(rcv S21 0 v28).bind fun b36 =>
bn2 (fX0_giveBack fu S21 b36 v31) fun _ S35 =>
(gR S35 8 1 (some a0)).bind fun v42 =>
(sR S35 v42 x1 none).bind fun S45 =>
some ((0 : Int32), S45)))
set_option maxHeartbeats 4000000 in
set_option maxRecDepth 100000 in
theorem mX9_close (l : Launch) (D : hD) (fu : Nat) (S : hS) (a0 : Nat) (x1 : Int32) (z : Int32 × hS) (h : fX9_close fu S a0 x1 = some z) : hM l D yX9_close cX9_close 3 (some .int) 1 22 0 0 [va_rf (some a0), .int x1] S (some (.int z.1)) z.2 := by
  refine h_body [.inr (some a0), .inl x1] RX9 (by decide) rfl (Nat.le_of_ble_eq_true rfl) ?_
  intro p e s m args below meth c C hin ls hV hl
  obtain ⟨-, hx, hb, hml, hown, hr, hlk, hK, hts⟩ := id C
  unfold fX9_close at h
  refine hr_aload_n hx hb dX9_close_0 rfl (hr_at hl 0 rfl) ?_
  refine lv_iload_n hx hb dX9_close_1 rfl (hi_at hl 1 rfl) ?_
  obtain ⟨b3, g4, h5⟩ := hbind h; clear h
  obtain ⟨_, _, e6, q6⟩ := rcv_inv g4
  obtain ⟨r1, S2, g7, h8⟩ := hbn2 h5; clear h5
  refine h_callV (n := 1) (As := [.int x1]) (rest := []) (st1 := [va_rf r1]) (fr := 0) (lo := 0) (mc := 0) (ms := 0) C.1 hK hV q6 rfl rfl wd293 wd290 wd292 wd9 wd78 ⟨by decide, by decide, by decide⟩ ⟨(Nat.le_of_ble_eq_true rfl), (Nat.le_of_ble_eq_true rfl)⟩ rfl hl.1 (hW_ok [] (Nat.le_of_ble_eq_true rfl)) dX9_close_2 ⟨(Nat.le_of_ble_eq_true rfl), (Nat.le_of_ble_eq_true rfl)⟩ rfl (by rw [e6]; rfl) (mX9_find l D fu S b3 x1 _ g7) (fun H locs hV => ?_)
  refine h_astore_n (tl' := [(2, .inr r1), (0, .inr (some a0)), (1, .inl x1)]) hx hb dX9_close_5 rfl hl (by decide) rfl (fun ls hl => ?_)
  refine hr_aload_n hx hb dX9_close_6 rfl (hr_at hl 0 rfl) ?_
  refine hr_ifnonnull (tgt := 12) hx hb dX9_close_7 (by decide) (fun c9 => ?_) (fun c9 => ?_)
  · rw [if_neg c9] at h8
    refine hr_aload_n hx hb dX9_close_12 rfl (hr_at hl 0 rfl) ?_
    obtain ⟨v10, g11, h12⟩ := hbind h8; clear h8
    refine h_gI hx hb hown hV g11 (flRX9_78 hts hK) dX9_close_13 ?_
    refine lv_iconst (v := 2) hx hb dX9_close_16 (by decide) ?_
    refine lv_icmp_ne (tgt := 23) hx hb dX9_close_17 (by decide) (fun c13 => ?_) (fun c13 => ?_)
    · rw [if_neg c13] at h12
      refine hr_aload_n hx hb dX9_close_23 rfl (hr_at hl 1 rfl) ?_
      obtain ⟨v14, g15, h16⟩ := hbind h12; clear h12
      refine h_gR hx hb hown hV g15 (flRX9_18 hts hK) dX9_close_24 ?_
      refine hr_aload_n hx hb dX9_close_27 rfl (hr_at hl 0 rfl) ?_
      obtain ⟨v17, g18, h19⟩ := hbind h16; clear h16
      refine h_gR hx hb hown hV g18 (flRX9_61 hts hK) dX9_close_28 ?_
      obtain ⟨b22, g23, h24⟩ := hbind h19; clear h19
      obtain ⟨_, _, e25, q25⟩ := rcv_inv g23
      obtain ⟨r20, S21, g26, h27⟩ := hbn2 h24; clear h24
      refine h_callVN (n := 1) (As := [va_rf v17]) (rest := []) (st1 := []) (fr := 0) (lo := 0) (mc := 0) (ms := 0) C.1 hK hV q25 rfl rfl wd277 (wo274 hK.2) wd276 wd6 wd79 ⟨by decide, by decide, by decide⟩ ⟨(Nat.le_of_ble_eq_true rfl), (Nat.le_of_ble_eq_true rfl)⟩ rfl hl.1 (hW_ok [] (Nat.le_of_ble_eq_true rfl)) dX9_close_31 ⟨(Nat.le_of_ble_eq_true rfl), (Nat.le_of_ble_eq_true rfl)⟩ rfl (by rw [e25]; rfl) (mX0_giveBack l D fu S2 b22 v17 _ g26) (fun H locs hV => ?_)
      refine hr_aload_n hx hb dX9_close_34 rfl (hr_at hl 1 rfl) ?_
      obtain ⟨v28, g29, h30⟩ := hbind h27; clear h27
      refine h_gR hx hb hown hV g29 (flRX9_18 hts hK) dX9_close_35 ?_
      refine hr_aload_n hx hb dX9_close_38 rfl (hr_at hl 0 rfl) ?_
      obtain ⟨v31, g32, h33⟩ := hbind h30; clear h30
      refine h_gR hx hb hown hV g32 (flRX9_133 hts hK) dX9_close_39 ?_
      obtain ⟨b36, g37, h38⟩ := hbind h33; clear h33
      obtain ⟨_, _, e39, q39⟩ := rcv_inv g37
      obtain ⟨r34, S35, g40, h41⟩ := hbn2 h38; clear h38
      refine h_callVN (n := 1) (As := [va_rf v31]) (rest := []) (st1 := []) (fr := 0) (lo := 0) (mc := 0) (ms := 0) C.1 hK hV q39 rfl rfl wd277 (wo274 hK.2) wd276 wd6 wd79 ⟨by decide, by decide, by decide⟩ ⟨(Nat.le_of_ble_eq_true rfl), (Nat.le_of_ble_eq_true rfl)⟩ rfl hl.1 (hW_ok [] (Nat.le_of_ble_eq_true rfl)) dX9_close_42 ⟨(Nat.le_of_ble_eq_true rfl), (Nat.le_of_ble_eq_true rfl)⟩ rfl (by rw [e39]; rfl) (mX0_giveBack l D fu S21 b36 v31 _ g40) (fun H locs hV => ?_)
      refine hr_aload_n hx hb dX9_close_45 rfl (hr_at hl 1 rfl) ?_
      obtain ⟨v42, g43, h44⟩ := hbind h41; clear h41
      refine h_gR hx hb hown hV g43 (flRX9_24 hts hK) dX9_close_46 ?_
      refine lv_iload_n hx hb dX9_close_49 rfl (hi_at hl 2 rfl) ?_
      refine h_null hx hb dX9_close_50 ?_
      obtain ⟨S45, g46, h47⟩ := hbind h44; clear h44
      refine h_aast hx hb hK hV g46 dX9_close_51 (fun H locs hV => ?_)
      refine lv_iconst (v := 0) hx hb dX9_close_52 (by decide) ?_
      exact h_iret hx hb hr hlk hV h47 (Nat.le_of_ble_eq_true rfl) (Nat.le_of_ble_eq_true rfl) dX9_close_53
    · rw [if_pos c13] at h12
      refine lv_bipush (v := -3) hx hb dX9_close_20 (by decide) ?_
      exact h_iret hx hb hr hlk hV h12 (Nat.le_of_ble_eq_true rfl) (Nat.le_of_ble_eq_true rfl) dX9_close_22
  · rw [if_pos c9] at h8
    refine lv_iconst (v := -1) hx hb dX9_close_10 (by decide) ?_
    exact h_iret hx hb hr hlk hV h8 (Nat.le_of_ble_eq_true rfl) (Nat.le_of_ble_eq_true rfl) dX9_close_11
