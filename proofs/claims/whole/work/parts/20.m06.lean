def fX10_isJob (fu : Nat) (S : hS) (a0 : Nat) (x1 : Int32) : Option (Int32 × hS) := if x1 < 0 then ((zz (0 : Int32)).bind (fun v => some (v, S))) else ((gI S 9 1 (some a0)).bind fun v2 =>
if v2 ≤ x1 then ((zz (0 : Int32)).bind (fun v => some (v, S))) else ((rcv S 9 (some a0)).bind fun b8 =>
bn2 (fX10_has fu S b8 x1) fun r6 S7 =>
if r6 = 0 then ((zz (0 : Int32)).bind (fun v => some (v, S7))) else ((zz (1 : Int32)).bind (fun v => some (v, S7)))))
set_option maxHeartbeats 4000000 in
set_option maxRecDepth 100000 in
theorem mX10_isJob (l : Launch) (D : hD) (fu : Nat) (S : hS) (a0 : Nat) (x1 : Int32) (z : Int32 × hS) (h : fX10_isJob fu S a0 x1 = some z) : hM l D yX10_isJob cX10_isJob 2 (some .boolean) 1 21 0 0 [va_rf (some a0), .int x1] S (some (.int z.1)) z.2 := by
  refine h_body [.inr (some a0), .inl x1] RX10 (by decide) rfl (Nat.le_of_ble_eq_true rfl) ?_
  intro p e s m args below meth c C hin ls hV hl
  obtain ⟨-, hx, hb, hml, hown, hr, hlk, hK, hts⟩ := id C
  unfold fX10_isJob at h
  refine lv_iload_n hx hb dX10_isJob_0 rfl (hi_at hl 1 rfl) ?_
  refine lv_if_lt (tgt := 24) hx hb dX10_isJob_1 (by decide) (fun c1 => ?_) (fun c1 => ?_)
  · rw [if_pos c1] at h
    refine lv_iconst (v := 0) hx hb dX10_isJob_24 (by decide) ?_
    exact h_zret hx hb hr hlk hV h (Nat.le_of_ble_eq_true rfl) (Nat.le_of_ble_eq_true rfl) dX10_isJob_25
  · rw [if_neg c1] at h
    refine lv_iload_n hx hb dX10_isJob_4 rfl (hi_at hl 1 rfl) ?_
    refine hr_aload_n hx hb dX10_isJob_5 rfl (hr_at hl 0 rfl) ?_
    obtain ⟨v2, g3, h4⟩ := hbind h; clear h
    refine h_gI hx hb hown hV g3 (flRX10_63 hts hK) dX10_isJob_6 ?_
    refine lv_icmp_ge (tgt := 24) hx hb dX10_isJob_9 (by decide) (fun c5 => ?_) (fun c5 => ?_)
    · rw [if_pos c5] at h4
      refine lv_iconst (v := 0) hx hb dX10_isJob_24 (by decide) ?_
      exact h_zret hx hb hr hlk hV h4 (Nat.le_of_ble_eq_true rfl) (Nat.le_of_ble_eq_true rfl) dX10_isJob_25
    · rw [if_neg c5] at h4
      refine hr_aload_n hx hb dX10_isJob_12 rfl (hr_at hl 0 rfl) ?_
      refine lv_iload_n hx hb dX10_isJob_13 rfl (hi_at hl 1 rfl) ?_
      obtain ⟨b8, g9, h10⟩ := hbind h4; clear h4
      obtain ⟨_, _, e11, q11⟩ := rcv_inv g9
      obtain ⟨r6, S7, g12, h13⟩ := hbn2 h10; clear h10
      refine h_callV (n := 1) (As := [.int x1]) (rest := []) (st1 := [.int r6]) (fr := 0) (lo := 0) (mc := 0) (ms := 0) C.1 hK hV q11 rfl rfl wd807 wd804 wd806 wd43 wd83 ⟨by decide, by decide, by decide⟩ ⟨(Nat.le_of_ble_eq_true rfl), (Nat.le_of_ble_eq_true rfl)⟩ rfl hl.1 (hW_ok [] (Nat.le_of_ble_eq_true rfl)) dX10_isJob_14 ⟨(Nat.le_of_ble_eq_true rfl), (Nat.le_of_ble_eq_true rfl)⟩ rfl (by rw [e11]; rfl) (mX10_has l D fu S b8 x1 _ g12) (fun H locs hV => ?_)
      refine lv_if_eq (tgt := 24) hx hb dX10_isJob_17 (by decide) (fun c14 => ?_) (fun c14 => ?_)
      · rw [if_pos c14] at h13
        refine lv_iconst (v := 0) hx hb dX10_isJob_24 (by decide) ?_
        exact h_zret hx hb hr hlk hV h13 (Nat.le_of_ble_eq_true rfl) (Nat.le_of_ble_eq_true rfl) dX10_isJob_25
      · rw [if_neg c14] at h13
        refine lv_iconst (v := 1) hx hb dX10_isJob_20 (by decide) ?_
        refine lv_goto (tgt := 25) hx hb dX10_isJob_21 (by decide) ?_
        exact h_zret hx hb hr hlk hV h13 (Nat.le_of_ble_eq_true rfl) (Nat.le_of_ble_eq_true rfl) dX10_isJob_25
def fX10_open_151 (fu : Nat) : Nat → hS → Nat → Int32 → Int32 → Int32 → Option (Int32 × hS)
  | 0, _, _, _, _, _ => none
  | n + 1, S, a0, x1, x4, x5 => if x1 ≤ x5 then (some (x4, S)) else ((gR S 9 3 (some a0)).bind fun v2 =>
(gR S 9 9 (some a0)).bind fun v5 =>
(aI S 10 v5 x4).bind fun v8 =>
(sV S 10 v2 (v8 + x5) (.int (0 : Int32))).bind fun S11 =>
fX10_open_151 fu n S11 a0 x1 x4 (x5 + (1 : Int32)))
set_option maxHeartbeats 4000000 in
set_option maxRecDepth 100000 in
theorem kX10_open_151 {p : Program} {l : Launch} {e : Env} {s : State} {m : MethodId} {args : Array Value} {below : List Frame} {meth : Method} {c : Code} {D : hD} {S0 : hS} {z : Int32 × hS} (C : hCx p m c cX10_open 6 s args RX10 meth (some .int) D) (fu : Nat) : ∀ (n : Nat) (S : hS) (a0 : Nat) (x1 : Int32) (x4 : Int32) (x5 : Int32) (H : Heap) (locs : List Loc) (ls : Array Slot), fX10_open_151 fu n S a0 x1 x4 x5 = some z → h_V D (h_A S0) s S H locs → hl_has ls 6 [(0, .inr (some a0)), (1, .inl x1), (4, .inl x4), (5, .inl x5)] → W p l e { frames := 4, cells := 0, slots := 0, locals := 92 } s m args below meth c H locs 0 0 (MQ below (h_Q D (h_A S0) (some (.int z.1)) z.2) args s 0 0 (h_A S0)) (F0 m 151 ls []) := by
  obtain ⟨-, hx, hb, hml, hown, hr, hlk, hK, hts⟩ := id C
  intro n
  induction n with
  | zero =>
    intro S a0 x1 x4 x5 _ _ _ h hV hl
    rw [fX10_open_151] at h
    cases h
  | succ n ih =>
    intro S a0 x1 x4 x5 _ _ _ h hV hl
    rw [fX10_open_151] at h
    refine lv_iload hx hb dX10_open_151 (hi_at hl 3 rfl) ?_
    refine lv_iload_n hx hb dX10_open_153 rfl (hi_at hl 1 rfl) ?_
    refine lv_icmp_ge (tgt := 179) hx hb dX10_open_154 (by decide) (fun c1 => ?_) (fun c1 => ?_)
    · rw [if_pos c1] at h
      refine lv_iload hx hb dX10_open_179 (hi_at hl 2 rfl) ?_
      exact h_iret hx hb hr hlk hV h (Nat.le_of_ble_eq_true rfl) (Nat.le_of_ble_eq_true rfl) dX10_open_181
    · rw [if_neg c1] at h
      refine hr_aload_n hx hb dX10_open_157 rfl (hr_at hl 0 rfl) ?_
      obtain ⟨v2, g3, h4⟩ := hbind h; clear h
      refine h_gR hx hb hown hV g3 (flRX10_69 hts hK) dX10_open_158 ?_
      refine hr_aload_n hx hb dX10_open_161 rfl (hr_at hl 0 rfl) ?_
      obtain ⟨v5, g6, h7⟩ := hbind h4; clear h4
      refine h_gR hx hb hown hV g6 (flRX10_25 hts hK) dX10_open_162 ?_
      refine lv_iload hx hb dX10_open_165 (hi_at hl 2 rfl) ?_
      obtain ⟨v8, g9, h10⟩ := hbind h7; clear h7
      refine h_iald hx hb hK hV g9 dX10_open_167 ?_
      refine lv_iload hx hb dX10_open_168 (hi_at hl 3 rfl) ?_
      refine lv_iadd hx hb dX10_open_170 ?_
      refine lv_iconst (v := 0) hx hb dX10_open_171 (by decide) ?_
      obtain ⟨S11, g12, h13⟩ := hbind h10; clear h10
      refine h_iast hx hb hK hV g12 dX10_open_172 (fun H locs hV => ?_)
      refine h_iinc (v := (x5 + (1 : Int32))) (tl' := [(5, .inl (x5 + (1 : Int32))), (0, .inr (some a0)), (1, .inl x1), (4, .inl x4)]) hx hb dX10_open_173 hl (k := 3) rfl rfl (by decide) rfl (fun ls hl => ?_)
      refine lv_goto (tgt := 151) hx hb dX10_open_176 (by decide) ?_
      exact ih S11 a0 x1 x4 (x5 + (1 : Int32)) _ _ _ h13 hV (hl_sub hl [1, 2, 3, 0] rfl)
def fX10_open_59 (fu : Nat) (S : hS) (a0 : Nat) (x1 : Int32) (x2 : Int32) (x3 : Int32) (x4 : Int32) : Option (Int32 × hS) := (gI S 9 1 (some a0)).bind fun v1 => if x4 = v1 then (some ((-5 : Int32), S)) else ((gR S 9 4 (some a0)).bind fun v5 =>
(sV S 10 v5 x4 (.int (1 : Int32))).bind fun S8 =>
(gR S8 9 5 (some a0)).bind fun v11 =>
(sV S8 10 v11 x4 (.int x1)).bind fun S14 =>
(gR S14 9 6 (some a0)).bind fun v17 =>
(sV S14 10 v17 x4 (.int x2)).bind fun S20 =>
(gR S20 9 7 (some a0)).bind fun v23 =>
(sV S20 10 v23 x4 (.int x3)).bind fun S26 =>
(gR S26 9 8 (some a0)).bind fun v29 =>
(sV S26 10 v29 x4 (.int (0 : Int32))).bind fun S32 =>
(gR S32 9 12 (some a0)).bind fun v35 =>
(sV S32 10 v35 x4 (.int (-1 : Int32))).bind fun S38 =>
(gR S38 9 13 (some a0)).bind fun v41 =>
(sV S38 10 v41 x4 (.int (-1 : Int32))).bind fun S44 =>
(rcv S44 9 (some a0)).bind fun b49 =>
bn2 (fX10_takes fu S44 b49 x4 (0 : Int32)) fun r47 S48 =>
if r47 = 0 then ((gR S48 9 4 (some a0)).bind fun v56 =>
(sV S48 10 v56 x4 (.int (0 : Int32))).bind fun S59 =>
some ((-6 : Int32), S59)) else (fX10_open_151 fu fu S48 a0 x1 x4 (0 : Int32)))
set_option maxHeartbeats 4000000 in
set_option maxRecDepth 100000 in
theorem kX10_open_59 {p : Program} {l : Launch} {e : Env} {s : State} {m : MethodId} {args : Array Value} {below : List Frame} {meth : Method} {c : Code} {D : hD} {S0 : hS} {z : Int32 × hS} (C : hCx p m c cX10_open 6 s args RX10 meth (some .int) D) (fu : Nat) : ∀ (S : hS) (a0 : Nat) (x1 : Int32) (x2 : Int32) (x3 : Int32) (x4 : Int32) (H : Heap) (locs : List Loc) (ls : Array Slot), fX10_open_59 fu S a0 x1 x2 x3 x4 = some z → h_V D (h_A S0) s S H locs → hl_has ls 6 [(0, .inr (some a0)), (1, .inl x1), (2, .inl x2), (3, .inl x3), (4, .inl x4)] → W p l e { frames := 4, cells := 0, slots := 0, locals := 92 } s m args below meth c H locs 0 0 (MQ below (h_Q D (h_A S0) (some (.int z.1)) z.2) args s 0 0 (h_A S0)) (F0 m 59 ls []) := by
  obtain ⟨-, hx, hb, hml, hown, hr, hlk, hK, hts⟩ := id C
  intro S a0 x1 x2 x3 x4 _ _ _ h hV hl
  unfold fX10_open_59 at h
  refine lv_iload hx hb dX10_open_59 (hi_at hl 4 rfl) ?_
  refine hr_aload_n hx hb dX10_open_61 rfl (hr_at hl 0 rfl) ?_
  obtain ⟨v1, g2, h3⟩ := hbind h; clear h
  refine h_gI hx hb hown hV g2 (flRX10_63 hts hK) dX10_open_62 ?_
  refine lv_icmp_ne (tgt := 71) hx hb dX10_open_65 (by decide) (fun c4 => ?_) (fun c4 => ?_)
  · rw [if_neg c4] at h3
    refine hr_aload_n hx hb dX10_open_71 rfl (hr_at hl 0 rfl) ?_
    obtain ⟨v5, g6, h7⟩ := hbind h3; clear h3
    refine h_gR hx hb hown hV g6 (flRX10_9 hts hK) dX10_open_72 ?_
    refine lv_iload hx hb dX10_open_75 (hi_at hl 4 rfl) ?_
    refine lv_iconst (v := 1) hx hb dX10_open_77 (by decide) ?_
    obtain ⟨S8, g9, h10⟩ := hbind h7; clear h7
    refine h_iast hx hb hK hV g9 dX10_open_78 (fun H locs hV => ?_)
    refine hr_aload_n hx hb dX10_open_79 rfl (hr_at hl 0 rfl) ?_
    obtain ⟨v11, g12, h13⟩ := hbind h10; clear h10
    refine h_gR hx hb hown hV g12 (flRX10_13 hts hK) dX10_open_80 ?_
    refine lv_iload hx hb dX10_open_83 (hi_at hl 4 rfl) ?_
    refine lv_iload_n hx hb dX10_open_85 rfl (hi_at hl 1 rfl) ?_
    obtain ⟨S14, g15, h16⟩ := hbind h13; clear h13
    refine h_iast hx hb hK hV g15 dX10_open_86 (fun H locs hV => ?_)
    refine hr_aload_n hx hb dX10_open_87 rfl (hr_at hl 0 rfl) ?_
    obtain ⟨v17, g18, h19⟩ := hbind h16; clear h16
    refine h_gR hx hb hown hV g18 (flRX10_16 hts hK) dX10_open_88 ?_
    refine lv_iload hx hb dX10_open_91 (hi_at hl 4 rfl) ?_
    refine lv_iload_n hx hb dX10_open_93 rfl (hi_at hl 2 rfl) ?_
    obtain ⟨S20, g21, h22⟩ := hbind h19; clear h19
    refine h_iast hx hb hK hV g21 dX10_open_94 (fun H locs hV => ?_)
    refine hr_aload_n hx hb dX10_open_95 rfl (hr_at hl 0 rfl) ?_
    obtain ⟨v23, g24, h25⟩ := hbind h22; clear h22
    refine h_gR hx hb hown hV g24 (flRX10_19 hts hK) dX10_open_96 ?_
    refine lv_iload hx hb dX10_open_99 (hi_at hl 4 rfl) ?_
    refine lv_iload_n hx hb dX10_open_101 rfl (hi_at hl 3 rfl) ?_
    obtain ⟨S26, g27, h28⟩ := hbind h25; clear h25
    refine h_iast hx hb hK hV g27 dX10_open_102 (fun H locs hV => ?_)
    refine hr_aload_n hx hb dX10_open_103 rfl (hr_at hl 0 rfl) ?_
    obtain ⟨v29, g30, h31⟩ := hbind h28; clear h28
    refine h_gR hx hb hown hV g30 (flRX10_22 hts hK) dX10_open_104 ?_
    refine lv_iload hx hb dX10_open_107 (hi_at hl 4 rfl) ?_
    refine lv_iconst (v := 0) hx hb dX10_open_109 (by decide) ?_
    obtain ⟨S32, g33, h34⟩ := hbind h31; clear h31
    refine h_iast hx hb hK hV g33 dX10_open_110 (fun H locs hV => ?_)
    refine hr_aload_n hx hb dX10_open_111 rfl (hr_at hl 0 rfl) ?_
    obtain ⟨v35, g36, h37⟩ := hbind h34; clear h34
    refine h_gR hx hb hown hV g36 (flRX10_34 hts hK) dX10_open_112 ?_
    refine lv_iload hx hb dX10_open_115 (hi_at hl 4 rfl) ?_
    refine lv_iconst (v := -1) hx hb dX10_open_117 (by decide) ?_
    obtain ⟨S38, g39, h40⟩ := hbind h37; clear h37
    refine h_iast hx hb hK hV g39 dX10_open_118 (fun H locs hV => ?_)
    refine hr_aload_n hx hb dX10_open_119 rfl (hr_at hl 0 rfl) ?_
    obtain ⟨v41, g42, h43⟩ := hbind h40; clear h40
    refine h_gR hx hb hown hV g42 (flRX10_37 hts hK) dX10_open_120 ?_
    refine lv_iload hx hb dX10_open_123 (hi_at hl 4 rfl) ?_
    refine lv_iconst (v := -1) hx hb dX10_open_125 (by decide) ?_
    obtain ⟨S44, g45, h46⟩ := hbind h43; clear h43
    refine h_iast hx hb hK hV g45 dX10_open_126 (fun H locs hV => ?_)
    refine hr_aload_n hx hb dX10_open_127 rfl (hr_at hl 0 rfl) ?_
    refine lv_iload hx hb dX10_open_128 (hi_at hl 4 rfl) ?_
    refine lv_iconst (v := 0) hx hb dX10_open_130 (by decide) ?_
    obtain ⟨b49, g50, h51⟩ := hbind h46; clear h46
    obtain ⟨_, _, e52, q52⟩ := rcv_inv g50
    obtain ⟨r47, S48, g53, h54⟩ := hbn2 h51; clear h51
    refine h_callV (n := 2) (As := [.int x4, .int (0 : Int32)]) (rest := []) (st1 := [.int r47]) (fr := 3) (lo := 69) (mc := 0) (ms := 0) C.1 hK hV q52 rfl rfl wd811 wd808 wd810 wd44 wd83 ⟨by decide, by decide, by decide⟩ ⟨(Nat.le_of_ble_eq_true rfl), (Nat.le_of_ble_eq_true rfl)⟩ rfl hl.1 (hW_ok [] (Nat.le_of_ble_eq_true rfl)) dX10_open_131 ⟨(Nat.le_of_ble_eq_true rfl), (Nat.le_of_ble_eq_true rfl)⟩ rfl (by rw [e52]; rfl) (mX10_takes l D fu S44 b49 x4 (0 : Int32) _ g53) (fun H locs hV => ?_)
    refine lv_if_ne (tgt := 148) hx hb dX10_open_134 (by decide) (fun c55 => ?_) (fun c55 => ?_)
    · rw [if_neg c55] at h54
      refine lv_iconst (v := 0) hx hb dX10_open_148 (by decide) ?_
      refine h_istore (tl' := [(5, .inl (0 : Int32)), (0, .inr (some a0)), (1, .inl x1), (2, .inl x2), (3, .inl x3), (4, .inl x4)]) hx hb dX10_open_149 hl (by decide) rfl (fun ls hl => ?_)
      exact kX10_open_151 C fu fu S48 a0 x1 x4 (0 : Int32) _ _ _ h54 hV (hl_sub hl [1, 2, 5, 0] rfl)
    · rw [if_pos c55] at h54
      refine hr_aload_n hx hb dX10_open_137 rfl (hr_at hl 0 rfl) ?_
      obtain ⟨v56, g57, h58⟩ := hbind h54; clear h54
      refine h_gR hx hb hown hV g57 (flRX10_9 hts hK) dX10_open_138 ?_
      refine lv_iload hx hb dX10_open_141 (hi_at hl 4 rfl) ?_
      refine lv_iconst (v := 0) hx hb dX10_open_143 (by decide) ?_
      obtain ⟨S59, g60, h61⟩ := hbind h58; clear h58
      refine h_iast hx hb hK hV g60 dX10_open_144 (fun H locs hV => ?_)
      refine lv_bipush (v := -6) hx hb dX10_open_145 (by decide) ?_
      exact h_iret hx hb hr hlk hV h61 (Nat.le_of_ble_eq_true rfl) (Nat.le_of_ble_eq_true rfl) dX10_open_147
  · rw [if_pos c4] at h3
    refine lv_bipush (v := -5) hx hb dX10_open_68 (by decide) ?_
    exact h_iret hx hb hr hlk hV h3 (Nat.le_of_ble_eq_true rfl) (Nat.le_of_ble_eq_true rfl) dX10_open_70
def fX10_open_35 (fu : Nat) : Nat → hS → Nat → Int32 → Int32 → Int32 → Int32 → Option (Int32 × hS)
  | 0, _, _, _, _, _, _ => none
  | n + 1, S, a0, x1, x2, x3, x4 => (gI S 9 1 (some a0)).bind fun v1 => if v1 ≤ x4 then (fX10_open_59 fu S a0 x1 x2 x3 x4) else ((rcv S 9 (some a0)).bind fun b7 =>
bn2 (fX10_has fu S b7 x4) fun r5 S6 =>
if r5 = 0 then (fX10_open_59 fu S6 a0 x1 x2 x3 x4) else (fX10_open_35 fu n S6 a0 x1 x2 x3 (x4 + (1 : Int32))))
set_option maxHeartbeats 4000000 in
set_option maxRecDepth 100000 in
theorem kX10_open_35 {p : Program} {l : Launch} {e : Env} {s : State} {m : MethodId} {args : Array Value} {below : List Frame} {meth : Method} {c : Code} {D : hD} {S0 : hS} {z : Int32 × hS} (C : hCx p m c cX10_open 6 s args RX10 meth (some .int) D) (fu : Nat) : ∀ (n : Nat) (S : hS) (a0 : Nat) (x1 : Int32) (x2 : Int32) (x3 : Int32) (x4 : Int32) (H : Heap) (locs : List Loc) (ls : Array Slot), fX10_open_35 fu n S a0 x1 x2 x3 x4 = some z → h_V D (h_A S0) s S H locs → hl_has ls 6 [(0, .inr (some a0)), (1, .inl x1), (2, .inl x2), (3, .inl x3), (4, .inl x4)] → W p l e { frames := 4, cells := 0, slots := 0, locals := 92 } s m args below meth c H locs 0 0 (MQ below (h_Q D (h_A S0) (some (.int z.1)) z.2) args s 0 0 (h_A S0)) (F0 m 35 ls []) := by
  obtain ⟨-, hx, hb, hml, hown, hr, hlk, hK, hts⟩ := id C
  intro n
  induction n with
  | zero =>
    intro S a0 x1 x2 x3 x4 _ _ _ h hV hl
    rw [fX10_open_35] at h
    cases h
  | succ n ih =>
    intro S a0 x1 x2 x3 x4 _ _ _ h hV hl
    rw [fX10_open_35] at h
    refine lv_iload hx hb dX10_open_35 (hi_at hl 4 rfl) ?_
    refine hr_aload_n hx hb dX10_open_37 rfl (hr_at hl 0 rfl) ?_
    obtain ⟨v1, g2, h3⟩ := hbind h; clear h
    refine h_gI hx hb hown hV g2 (flRX10_63 hts hK) dX10_open_38 ?_
    refine lv_icmp_ge (tgt := 59) hx hb dX10_open_41 (by decide) (fun c4 => ?_) (fun c4 => ?_)
    · rw [if_pos c4] at h3
      exact kX10_open_59 C fu S a0 x1 x2 x3 x4 _ _ _ h3 hV (hl_sub hl [0, 1, 2, 3, 4] rfl)
    · rw [if_neg c4] at h3
      refine hr_aload_n hx hb dX10_open_44 rfl (hr_at hl 0 rfl) ?_
      refine lv_iload hx hb dX10_open_45 (hi_at hl 4 rfl) ?_
      obtain ⟨b7, g8, h9⟩ := hbind h3; clear h3
      obtain ⟨_, _, e10, q10⟩ := rcv_inv g8
      obtain ⟨r5, S6, g11, h12⟩ := hbn2 h9; clear h9
      refine h_callV (n := 1) (As := [.int x4]) (rest := []) (st1 := [.int r5]) (fr := 0) (lo := 0) (mc := 0) (ms := 0) C.1 hK hV q10 rfl rfl wd807 wd804 wd806 wd43 wd83 ⟨by decide, by decide, by decide⟩ ⟨(Nat.le_of_ble_eq_true rfl), (Nat.le_of_ble_eq_true rfl)⟩ rfl hl.1 (hW_ok [] (Nat.le_of_ble_eq_true rfl)) dX10_open_47 ⟨(Nat.le_of_ble_eq_true rfl), (Nat.le_of_ble_eq_true rfl)⟩ rfl (by rw [e10]; rfl) (mX10_has l D fu S b7 x4 _ g11) (fun H locs hV => ?_)
      refine lv_if_eq (tgt := 59) hx hb dX10_open_50 (by decide) (fun c13 => ?_) (fun c13 => ?_)
      · rw [if_pos c13] at h12
        exact kX10_open_59 C fu S6 a0 x1 x2 x3 x4 _ _ _ h12 hV (hl_sub hl [0, 1, 2, 3, 4] rfl)
      · rw [if_neg c13] at h12
        refine h_iinc (v := (x4 + (1 : Int32))) (tl' := [(4, .inl (x4 + (1 : Int32))), (0, .inr (some a0)), (1, .inl x1), (2, .inl x2), (3, .inl x3)]) hx hb dX10_open_53 hl (k := 4) rfl rfl (by decide) rfl (fun ls hl => ?_)
        refine lv_goto (tgt := 35) hx hb dX10_open_56 (by decide) ?_
        exact ih S6 a0 x1 x2 x3 (x4 + (1 : Int32)) _ _ _ h12 hV (hl_sub hl [1, 2, 3, 4, 0] rfl)
def fX10_open (fu : Nat) (S : hS) (a0 : Nat) (x1 : Int32) (x2 : Int32) (x3 : Int32) : Option (Int32 × hS) := if x1 < 0 then (some ((-4 : Int32), S)) else (if (1000 : Int32) < x1 then (some ((-4 : Int32), S)) else (if x2 < 0 then (some ((-4 : Int32), S)) else (if (4 : Int32) < x2 then (some ((-4 : Int32), S)) else (if x3 < 0 then (some ((-4 : Int32), S)) else (if x3 ≤ (3 : Int32) then (fX10_open_35 fu fu S a0 x1 x2 x3 (0 : Int32)) else (some ((-4 : Int32), S)))))))
set_option maxHeartbeats 4000000 in
set_option maxRecDepth 100000 in
theorem mX10_open (l : Launch) (D : hD) (fu : Nat) (S : hS) (a0 : Nat) (x1 : Int32) (x2 : Int32) (x3 : Int32) (z : Int32 × hS) (h : fX10_open fu S a0 x1 x2 x3 = some z) : hM l D yX10_open cX10_open 6 (some .int) 4 92 0 0 [va_rf (some a0), .int x1, .int x2, .int x3] S (some (.int z.1)) z.2 := by
  refine h_body [.inr (some a0), .inl x1, .inl x2, .inl x3] RX10 (by decide) rfl (Nat.le_of_ble_eq_true rfl) ?_
  intro p e s m args below meth c C hin ls hV hl
  obtain ⟨-, hx, hb, hml, hown, hr, hlk, hK, hts⟩ := id C
  unfold fX10_open at h
  refine lv_iload_n hx hb dX10_open_0 rfl (hi_at hl 1 rfl) ?_
  refine lv_if_lt (tgt := 29) hx hb dX10_open_1 (by decide) (fun c1 => ?_) (fun c1 => ?_)
  · rw [if_pos c1] at h
    refine lv_bipush (v := -4) hx hb dX10_open_29 (by decide) ?_
    exact h_iret hx hb hr hlk hV h (Nat.le_of_ble_eq_true rfl) (Nat.le_of_ble_eq_true rfl) dX10_open_31
  · rw [if_neg c1] at h
    refine lv_iload_n hx hb dX10_open_4 rfl (hi_at hl 1 rfl) ?_
    refine lv_sipush (v := 1000) hx hb dX10_open_5 (by decide) ?_
    refine lv_icmp_gt (tgt := 29) hx hb dX10_open_8 (by decide) (fun c2 => ?_) (fun c2 => ?_)
    · rw [if_pos c2] at h
      refine lv_bipush (v := -4) hx hb dX10_open_29 (by decide) ?_
      exact h_iret hx hb hr hlk hV h (Nat.le_of_ble_eq_true rfl) (Nat.le_of_ble_eq_true rfl) dX10_open_31
    · rw [if_neg c2] at h
      refine lv_iload_n hx hb dX10_open_11 rfl (hi_at hl 2 rfl) ?_
      refine lv_if_lt (tgt := 29) hx hb dX10_open_12 (by decide) (fun c3 => ?_) (fun c3 => ?_)
      · rw [if_pos c3] at h
        refine lv_bipush (v := -4) hx hb dX10_open_29 (by decide) ?_
        exact h_iret hx hb hr hlk hV h (Nat.le_of_ble_eq_true rfl) (Nat.le_of_ble_eq_true rfl) dX10_open_31
      · rw [if_neg c3] at h
        refine lv_iload_n hx hb dX10_open_15 rfl (hi_at hl 2 rfl) ?_
        refine lv_iconst (v := 4) hx hb dX10_open_16 (by decide) ?_
        refine lv_icmp_gt (tgt := 29) hx hb dX10_open_17 (by decide) (fun c4 => ?_) (fun c4 => ?_)
        · rw [if_pos c4] at h
          refine lv_bipush (v := -4) hx hb dX10_open_29 (by decide) ?_
          exact h_iret hx hb hr hlk hV h (Nat.le_of_ble_eq_true rfl) (Nat.le_of_ble_eq_true rfl) dX10_open_31
        · rw [if_neg c4] at h
          refine lv_iload_n hx hb dX10_open_20 rfl (hi_at hl 3 rfl) ?_
          refine lv_if_lt (tgt := 29) hx hb dX10_open_21 (by decide) (fun c5 => ?_) (fun c5 => ?_)
          · rw [if_pos c5] at h
            refine lv_bipush (v := -4) hx hb dX10_open_29 (by decide) ?_
            exact h_iret hx hb hr hlk hV h (Nat.le_of_ble_eq_true rfl) (Nat.le_of_ble_eq_true rfl) dX10_open_31
          · rw [if_neg c5] at h
            refine lv_iload_n hx hb dX10_open_24 rfl (hi_at hl 3 rfl) ?_
            refine lv_iconst (v := 3) hx hb dX10_open_25 (by decide) ?_
            refine lv_icmp_le (tgt := 32) hx hb dX10_open_26 (by decide) (fun c6 => ?_) (fun c6 => ?_)
            · rw [if_pos c6] at h
              refine lv_iconst (v := 0) hx hb dX10_open_32 (by decide) ?_
              refine h_istore (tl' := [(4, .inl (0 : Int32)), (0, .inr (some a0)), (1, .inl x1), (2, .inl x2), (3, .inl x3)]) hx hb dX10_open_33 hl (by decide) rfl (fun ls hl => ?_)
              exact kX10_open_35 C fu fu S a0 x1 x2 x3 (0 : Int32) _ _ _ h hV (hl_sub hl [1, 2, 3, 4, 0] rfl)
            · rw [if_neg c6] at h
              refine lv_bipush (v := -4) hx hb dX10_open_29 (by decide) ?_
              exact h_iret hx hb hr hlk hV h (Nat.le_of_ble_eq_true rfl) (Nat.le_of_ble_eq_true rfl) dX10_open_31
def fX10_put (fu : Nat) (S : hS) (a0 : Nat) (x1 : Int32) (x2 : Int32) (x3 : Int32) : Option (Int32 × hS) := (rcv S 9 (some a0)).bind fun b3 => bn2 (fX10_isJob fu S b3 x1) fun r1 S2 => if r1 = 0 then (some ((-1 : Int32), S2)) else ((gR S2 9 4 (some a0)).bind fun v10 =>
(aI S2 10 v10 x1).bind fun v13 =>
if v13 = (1 : Int32) then (if x2 < 0 then (some ((-2 : Int32), S2)) else ((gR S2 9 5 (some a0)).bind fun v18 =>
(aI S2 10 v18 x1).bind fun v21 =>
if x2 < v21 then ((gR S2 9 3 (some a0)).bind fun v25 =>
(gR S2 9 9 (some a0)).bind fun v28 =>
(aI S2 10 v28 x1).bind fun v31 =>
(sV S2 10 v25 (v31 + x2) (.int x3)).bind fun S34 =>
some ((0 : Int32), S34)) else (some ((-2 : Int32), S2)))) else (some ((-3 : Int32), S2)))
set_option maxHeartbeats 4000000 in
set_option maxRecDepth 100000 in
theorem mX10_put (l : Launch) (D : hD) (fu : Nat) (S : hS) (a0 : Nat) (x1 : Int32) (x2 : Int32) (x3 : Int32) (z : Int32 × hS) (h : fX10_put fu S a0 x1 x2 x3 = some z) : hM l D yX10_put cX10_put 4 (some .int) 2 42 0 0 [va_rf (some a0), .int x1, .int x2, .int x3] S (some (.int z.1)) z.2 := by
  refine h_body [.inr (some a0), .inl x1, .inl x2, .inl x3] RX10 (by decide) rfl (Nat.le_of_ble_eq_true rfl) ?_
  intro p e s m args below meth c C hin ls hV hl
  obtain ⟨-, hx, hb, hml, hown, hr, hlk, hK, hts⟩ := id C
  unfold fX10_put at h
  refine hr_aload_n hx hb dX10_put_0 rfl (hr_at hl 0 rfl) ?_
  refine lv_iload_n hx hb dX10_put_1 rfl (hi_at hl 1 rfl) ?_
  obtain ⟨b3, g4, h5⟩ := hbind h; clear h
  obtain ⟨_, _, e6, q6⟩ := rcv_inv g4
  obtain ⟨r1, S2, g7, h8⟩ := hbn2 h5; clear h5
  refine h_callV (n := 1) (As := [.int x1]) (rest := []) (st1 := [.int r1]) (fr := 1) (lo := 21) (mc := 0) (ms := 0) C.1 hK hV q6 rfl rfl wd839 wd836 wd838 wd50 wd83 ⟨by decide, by decide, by decide⟩ ⟨(Nat.le_of_ble_eq_true rfl), (Nat.le_of_ble_eq_true rfl)⟩ rfl hl.1 (hW_ok [] (Nat.le_of_ble_eq_true rfl)) dX10_put_2 ⟨(Nat.le_of_ble_eq_true rfl), (Nat.le_of_ble_eq_true rfl)⟩ rfl (by rw [e6]; rfl) (mX10_isJob l D fu S b3 x1 _ g7) (fun H locs hV => ?_)
  refine lv_if_ne (tgt := 10) hx hb dX10_put_5 (by decide) (fun c9 => ?_) (fun c9 => ?_)
  · rw [if_neg c9] at h8
    refine hr_aload_n hx hb dX10_put_10 rfl (hr_at hl 0 rfl) ?_
    obtain ⟨v10, g11, h12⟩ := hbind h8; clear h8
    refine h_gR hx hb hown hV g11 (flRX10_9 hts hK) dX10_put_11 ?_
    refine lv_iload_n hx hb dX10_put_14 rfl (hi_at hl 1 rfl) ?_
    obtain ⟨v13, g14, h15⟩ := hbind h12; clear h12
    refine h_iald hx hb hK hV g14 dX10_put_15 ?_
    refine lv_iconst (v := 1) hx hb dX10_put_16 (by decide) ?_
    refine lv_icmp_eq (tgt := 23) hx hb dX10_put_17 (by decide) (fun c16 => ?_) (fun c16 => ?_)
    · rw [if_pos c16] at h15
      refine lv_iload_n hx hb dX10_put_23 rfl (hi_at hl 2 rfl) ?_
      refine lv_if_lt (tgt := 37) hx hb dX10_put_24 (by decide) (fun c17 => ?_) (fun c17 => ?_)
      · rw [if_pos c17] at h15
        refine lv_bipush (v := -2) hx hb dX10_put_37 (by decide) ?_
        exact h_iret hx hb hr hlk hV h15 (Nat.le_of_ble_eq_true rfl) (Nat.le_of_ble_eq_true rfl) dX10_put_39
      · rw [if_neg c17] at h15
        refine lv_iload_n hx hb dX10_put_27 rfl (hi_at hl 2 rfl) ?_
        refine hr_aload_n hx hb dX10_put_28 rfl (hr_at hl 0 rfl) ?_
        obtain ⟨v18, g19, h20⟩ := hbind h15; clear h15
        refine h_gR hx hb hown hV g19 (flRX10_13 hts hK) dX10_put_29 ?_
        refine lv_iload_n hx hb dX10_put_32 rfl (hi_at hl 1 rfl) ?_
        obtain ⟨v21, g22, h23⟩ := hbind h20; clear h20
        refine h_iald hx hb hK hV g22 dX10_put_33 ?_
        refine lv_icmp_lt (tgt := 40) hx hb dX10_put_34 (by decide) (fun c24 => ?_) (fun c24 => ?_)
        · rw [if_pos c24] at h23
          refine hr_aload_n hx hb dX10_put_40 rfl (hr_at hl 0 rfl) ?_
          obtain ⟨v25, g26, h27⟩ := hbind h23; clear h23
          refine h_gR hx hb hown hV g26 (flRX10_69 hts hK) dX10_put_41 ?_
          refine hr_aload_n hx hb dX10_put_44 rfl (hr_at hl 0 rfl) ?_
          obtain ⟨v28, g29, h30⟩ := hbind h27; clear h27
          refine h_gR hx hb hown hV g29 (flRX10_25 hts hK) dX10_put_45 ?_
          refine lv_iload_n hx hb dX10_put_48 rfl (hi_at hl 1 rfl) ?_
          obtain ⟨v31, g32, h33⟩ := hbind h30; clear h30
          refine h_iald hx hb hK hV g32 dX10_put_49 ?_
          refine lv_iload_n hx hb dX10_put_50 rfl (hi_at hl 2 rfl) ?_
          refine lv_iadd hx hb dX10_put_51 ?_
          refine lv_iload_n hx hb dX10_put_52 rfl (hi_at hl 3 rfl) ?_
          obtain ⟨S34, g35, h36⟩ := hbind h33; clear h33
          refine h_iast hx hb hK hV g35 dX10_put_53 (fun H locs hV => ?_)
          refine lv_iconst (v := 0) hx hb dX10_put_54 (by decide) ?_
          exact h_iret hx hb hr hlk hV h36 (Nat.le_of_ble_eq_true rfl) (Nat.le_of_ble_eq_true rfl) dX10_put_55
        · rw [if_neg c24] at h23
          refine lv_bipush (v := -2) hx hb dX10_put_37 (by decide) ?_
          exact h_iret hx hb hr hlk hV h23 (Nat.le_of_ble_eq_true rfl) (Nat.le_of_ble_eq_true rfl) dX10_put_39
    · rw [if_neg c16] at h15
      refine lv_bipush (v := -3) hx hb dX10_put_20 (by decide) ?_
      exact h_iret hx hb hr hlk hV h15 (Nat.le_of_ble_eq_true rfl) (Nat.le_of_ble_eq_true rfl) dX10_put_22
  · rw [if_pos c9] at h8
    refine lv_iconst (v := -1) hx hb dX10_put_8 (by decide) ?_
    exact h_iret hx hb hr hlk hV h8 (Nat.le_of_ble_eq_true rfl) (Nat.le_of_ble_eq_true rfl) dX10_put_9
def fX10_resize_187 (fu : Nat) (k151 : hS → Nat → Int32 → Int32 → Int32 → Int32 → Option (Int32 × hS)) (S : hS) (a0 : Nat) (x1 : Int32) (x2 : Int32) (x3 : Int32) (x6 : Int32) (t0 : Option Nat) (t1 : Int32) (t2 : Int32) : Option (Int32 × hS) := (sV S 10 t0 t1 (.int t2)).bind fun S1 => k151 S1 a0 x1 x2 x3 (x6 + (1 : Int32))
set_option maxHeartbeats 4000000 in
set_option maxRecDepth 100000 in
theorem kX10_resize_187 {p : Program} {l : Launch} {e : Env} {s : State} {m : MethodId} {args : Array Value} {below : List Frame} {meth : Method} {c : Code} {D : hD} {S0 : hS} {z : Int32 × hS} (C : hCx p m c cX10_resize 7 s args RX10 meth (some .int) D) (fu : Nat) (k151 : hS → Nat → Int32 → Int32 → Int32 → Int32 → Option (Int32 × hS)) (hk151 : ∀ (S : hS) (a0 : Nat) (x1 : Int32) (x2 : Int32) (x3 : Int32) (x6 : Int32) (H : Heap) (locs : List Loc) (ls : Array Slot), k151 S a0 x1 x2 x3 x6 = some z → h_V D (h_A S0) s S H locs → hl_has ls 7 [(0, .inr (some a0)), (1, .inl x1), (2, .inl x2), (3, .inl x3), (6, .inl x6)] → W p l e { frames := 4, cells := 0, slots := 0, locals := 92 } s m args below meth c H locs 0 0 (MQ below (h_Q D (h_A S0) (some (.int z.1)) z.2) args s 0 0 (h_A S0)) (F0 m 151 ls [])) : ∀ (S : hS) (a0 : Nat) (x1 : Int32) (x2 : Int32) (x3 : Int32) (x6 : Int32) (t0 : Option Nat) (t1 : Int32) (t2 : Int32) (H : Heap) (locs : List Loc) (ls : Array Slot), fX10_resize_187 fu k151 S a0 x1 x2 x3 x6 t0 t1 t2 = some z → h_V D (h_A S0) s S H locs → hl_has ls 7 [(0, .inr (some a0)), (1, .inl x1), (2, .inl x2), (3, .inl x3), (6, .inl x6)] → W p l e { frames := 4, cells := 0, slots := 0, locals := 92 } s m args below meth c H locs 0 0 (MQ below (h_Q D (h_A S0) (some (.int z.1)) z.2) args s 0 0 (h_A S0)) (F0 m 187 ls [.int t2, .int t1, va_rf t0]) := by
  obtain ⟨-, hx, hb, hml, hown, hr, hlk, hK, hts⟩ := id C
  intro S a0 x1 x2 x3 x6 t0 t1 t2 _ _ _ h hV hl
  unfold fX10_resize_187 at h
  obtain ⟨S1, g2, h3⟩ := hbind h; clear h
  refine h_iast hx hb hK hV g2 dX10_resize_187 (fun H locs hV => ?_)
  refine h_iinc (v := (x6 + (1 : Int32))) (tl' := [(6, .inl (x6 + (1 : Int32))), (0, .inr (some a0)), (1, .inl x1), (2, .inl x2), (3, .inl x3)]) hx hb dX10_resize_188 hl (k := 4) rfl rfl (by decide) rfl (fun ls hl => ?_)
  refine lv_goto (tgt := 151) hx hb dX10_resize_191 (by decide) ?_
  exact hk151 S1 a0 x1 x2 x3 (x6 + (1 : Int32)) _ _ _ h3 hV (hl_sub hl [1, 2, 3, 4, 0] rfl)
def fX10_resize_151 (fu : Nat) : Nat → hS → Nat → Int32 → Int32 → Int32 → Int32 → Option (Int32 × hS)
  | 0, _, _, _, _, _, _ => none
  | n + 1, S, a0, x1, x2, x3, x6 => if x2 ≤ x6 then (some ((0 : Int32), S)) else ((gR S 9 3 (some a0)).bind fun v2 =>
(gR S 9 9 (some a0)).bind fun v5 =>
(aI S 10 v5 x1).bind fun v8 =>
if x3 ≤ x6 then (fX10_resize_187 fu (fX10_resize_151 fu n) S a0 x1 x2 x3 x6 v2 (v8 + x6) (0 : Int32)) else ((gR S 9 18 (some a0)).bind fun v12 =>
(aI S 10 v12 x6).bind fun v15 =>
fX10_resize_187 fu (fX10_resize_151 fu n) S a0 x1 x2 x3 x6 v2 (v8 + x6) v15))
set_option maxHeartbeats 4000000 in
set_option maxRecDepth 100000 in
theorem kX10_resize_151 {p : Program} {l : Launch} {e : Env} {s : State} {m : MethodId} {args : Array Value} {below : List Frame} {meth : Method} {c : Code} {D : hD} {S0 : hS} {z : Int32 × hS} (C : hCx p m c cX10_resize 7 s args RX10 meth (some .int) D) (fu : Nat) : ∀ (n : Nat) (S : hS) (a0 : Nat) (x1 : Int32) (x2 : Int32) (x3 : Int32) (x6 : Int32) (H : Heap) (locs : List Loc) (ls : Array Slot), fX10_resize_151 fu n S a0 x1 x2 x3 x6 = some z → h_V D (h_A S0) s S H locs → hl_has ls 7 [(0, .inr (some a0)), (1, .inl x1), (2, .inl x2), (3, .inl x3), (6, .inl x6)] → W p l e { frames := 4, cells := 0, slots := 0, locals := 92 } s m args below meth c H locs 0 0 (MQ below (h_Q D (h_A S0) (some (.int z.1)) z.2) args s 0 0 (h_A S0)) (F0 m 151 ls []) := by
  obtain ⟨-, hx, hb, hml, hown, hr, hlk, hK, hts⟩ := id C
  intro n
  induction n with
  | zero =>
    intro S a0 x1 x2 x3 x6 _ _ _ h hV hl
    rw [fX10_resize_151] at h
    cases h
  | succ n ih =>
    intro S a0 x1 x2 x3 x6 _ _ _ h hV hl
    rw [fX10_resize_151] at h
    refine lv_iload hx hb dX10_resize_151 (hi_at hl 4 rfl) ?_
    refine lv_iload_n hx hb dX10_resize_153 rfl (hi_at hl 2 rfl) ?_
    refine lv_icmp_ge (tgt := 194) hx hb dX10_resize_154 (by decide) (fun c1 => ?_) (fun c1 => ?_)
    · rw [if_pos c1] at h
      refine lv_iconst (v := 0) hx hb dX10_resize_194 (by decide) ?_
      exact h_iret hx hb hr hlk hV h (Nat.le_of_ble_eq_true rfl) (Nat.le_of_ble_eq_true rfl) dX10_resize_195
    · rw [if_neg c1] at h
      refine hr_aload_n hx hb dX10_resize_157 rfl (hr_at hl 0 rfl) ?_
      obtain ⟨v2, g3, h4⟩ := hbind h; clear h
      refine h_gR hx hb hown hV g3 (flRX10_69 hts hK) dX10_resize_158 ?_
      refine hr_aload_n hx hb dX10_resize_161 rfl (hr_at hl 0 rfl) ?_
      obtain ⟨v5, g6, h7⟩ := hbind h4; clear h4
      refine h_gR hx hb hown hV g6 (flRX10_25 hts hK) dX10_resize_162 ?_
      refine lv_iload_n hx hb dX10_resize_165 rfl (hi_at hl 1 rfl) ?_
      obtain ⟨v8, g9, h10⟩ := hbind h7; clear h7
      refine h_iald hx hb hK hV g9 dX10_resize_166 ?_
      refine lv_iload hx hb dX10_resize_167 (hi_at hl 4 rfl) ?_
      refine lv_iadd hx hb dX10_resize_169 ?_
      refine lv_iload hx hb dX10_resize_170 (hi_at hl 4 rfl) ?_
      refine lv_iload_n hx hb dX10_resize_172 rfl (hi_at hl 3 rfl) ?_
      refine lv_icmp_ge (tgt := 186) hx hb dX10_resize_173 (by decide) (fun c11 => ?_) (fun c11 => ?_)
      · rw [if_pos c11] at h10
        refine lv_iconst (v := 0) hx hb dX10_resize_186 (by decide) ?_
        exact kX10_resize_187 C fu (fX10_resize_151 fu n) ih S a0 x1 x2 x3 x6 v2 (v8 + x6) (0 : Int32) _ _ _ h10 hV (hl_sub hl [0, 1, 2, 3, 4] rfl)
      · rw [if_neg c11] at h10
        refine hr_aload_n hx hb dX10_resize_176 rfl (hr_at hl 0 rfl) ?_
        obtain ⟨v12, g13, h14⟩ := hbind h10; clear h10
        refine h_gR hx hb hown hV g13 (flRX10_44 hts hK) dX10_resize_177 ?_
        refine lv_iload hx hb dX10_resize_180 (hi_at hl 4 rfl) ?_
        obtain ⟨v15, g16, h17⟩ := hbind h14; clear h14
        refine h_iald hx hb hK hV g16 dX10_resize_182 ?_
        refine lv_goto (tgt := 187) hx hb dX10_resize_183 (by decide) ?_
        exact kX10_resize_187 C fu (fX10_resize_151 fu n) ih S a0 x1 x2 x3 x6 v2 (v8 + x6) v15 _ _ _ h17 hV (hl_sub hl [0, 1, 2, 3, 4] rfl)
def fX10_resize_116 (fu : Nat) (S : hS) (a0 : Nat) (x1 : Int32) (x2 : Int32) (x3 : Int32) (x4 : Int32) (x5 : Int32) (t0 : Option Nat) (t1 : Int32) (t2 : Int32) : Option (Int32 × hS) := (rcv S 9 t0).bind fun b3 => bn2 (fX10_takes fu S b3 t1 t2) fun r1 S2 => if r1 = 0 then ((gR S2 9 5 (some a0)).bind fun v10 =>
(sV S2 10 v10 x1 (.int x3)).bind fun S13 =>
(gR S13 9 9 (some a0)).bind fun v16 =>
(sV S13 10 v16 x1 (.int x4)).bind fun S19 =>
(gR S19 9 10 (some a0)).bind fun v22 =>
(sV S19 10 v22 x1 (.int x5)).bind fun S25 =>
some ((-6 : Int32), S25)) else (fX10_resize_151 fu fu S2 a0 x1 x2 x3 (0 : Int32))
set_option maxHeartbeats 4000000 in
set_option maxRecDepth 100000 in
theorem kX10_resize_116 {p : Program} {l : Launch} {e : Env} {s : State} {m : MethodId} {args : Array Value} {below : List Frame} {meth : Method} {c : Code} {D : hD} {S0 : hS} {z : Int32 × hS} (C : hCx p m c cX10_resize 7 s args RX10 meth (some .int) D) (fu : Nat) : ∀ (S : hS) (a0 : Nat) (x1 : Int32) (x2 : Int32) (x3 : Int32) (x4 : Int32) (x5 : Int32) (t0 : Option Nat) (t1 : Int32) (t2 : Int32) (H : Heap) (locs : List Loc) (ls : Array Slot), fX10_resize_116 fu S a0 x1 x2 x3 x4 x5 t0 t1 t2 = some z → h_V D (h_A S0) s S H locs → hl_has ls 7 [(0, .inr (some a0)), (1, .inl x1), (2, .inl x2), (3, .inl x3), (4, .inl x4), (5, .inl x5)] → W p l e { frames := 4, cells := 0, slots := 0, locals := 92 } s m args below meth c H locs 0 0 (MQ below (h_Q D (h_A S0) (some (.int z.1)) z.2) args s 0 0 (h_A S0)) (F0 m 116 ls [.int t2, .int t1, va_rf t0]) := by
  obtain ⟨-, hx, hb, hml, hown, hr, hlk, hK, hts⟩ := id C
  intro S a0 x1 x2 x3 x4 x5 t0 t1 t2 _ _ _ h hV hl
  unfold fX10_resize_116 at h
  obtain ⟨b3, g4, h5⟩ := hbind h; clear h
  obtain ⟨_, _, e6, q6⟩ := rcv_inv g4
  obtain ⟨r1, S2, g7, h8⟩ := hbn2 h5; clear h5
  refine h_callV (n := 2) (As := [.int t1, .int t2]) (rest := []) (st1 := [.int r1]) (fr := 3) (lo := 69) (mc := 0) (ms := 0) C.1 hK hV q6 rfl rfl wd811 wd808 wd810 wd44 wd83 ⟨by decide, by decide, by decide⟩ ⟨(Nat.le_of_ble_eq_true rfl), (Nat.le_of_ble_eq_true rfl)⟩ rfl hl.1 (hW_ok [] (Nat.le_of_ble_eq_true rfl)) dX10_resize_116 ⟨(Nat.le_of_ble_eq_true rfl), (Nat.le_of_ble_eq_true rfl)⟩ rfl (by rw [e6]; rfl) (mX10_takes l D fu S b3 t1 t2 _ g7) (fun H locs hV => ?_)
  refine lv_if_ne (tgt := 148) hx hb dX10_resize_119 (by decide) (fun c9 => ?_) (fun c9 => ?_)
  · rw [if_neg c9] at h8
    refine lv_iconst (v := 0) hx hb dX10_resize_148 (by decide) ?_
    refine h_istore (tl' := [(6, .inl (0 : Int32)), (0, .inr (some a0)), (1, .inl x1), (2, .inl x2), (3, .inl x3), (4, .inl x4), (5, .inl x5)]) hx hb dX10_resize_149 hl (by decide) rfl (fun ls hl => ?_)
    exact kX10_resize_151 C fu fu S2 a0 x1 x2 x3 (0 : Int32) _ _ _ h8 hV (hl_sub hl [1, 2, 3, 4, 0] rfl)
  · rw [if_pos c9] at h8
    refine hr_aload_n hx hb dX10_resize_122 rfl (hr_at hl 0 rfl) ?_
    obtain ⟨v10, g11, h12⟩ := hbind h8; clear h8
    refine h_gR hx hb hown hV g11 (flRX10_13 hts hK) dX10_resize_123 ?_
    refine lv_iload_n hx hb dX10_resize_126 rfl (hi_at hl 1 rfl) ?_
    refine lv_iload_n hx hb dX10_resize_127 rfl (hi_at hl 3 rfl) ?_
    obtain ⟨S13, g14, h15⟩ := hbind h12; clear h12
    refine h_iast hx hb hK hV g14 dX10_resize_128 (fun H locs hV => ?_)
    refine hr_aload_n hx hb dX10_resize_129 rfl (hr_at hl 0 rfl) ?_
    obtain ⟨v16, g17, h18⟩ := hbind h15; clear h15
    refine h_gR hx hb hown hV g17 (flRX10_25 hts hK) dX10_resize_130 ?_
    refine lv_iload_n hx hb dX10_resize_133 rfl (hi_at hl 1 rfl) ?_
    refine lv_iload hx hb dX10_resize_134 (hi_at hl 4 rfl) ?_
    obtain ⟨S19, g20, h21⟩ := hbind h18; clear h18
    refine h_iast hx hb hK hV g20 dX10_resize_136 (fun H locs hV => ?_)
    refine hr_aload_n hx hb dX10_resize_137 rfl (hr_at hl 0 rfl) ?_
    obtain ⟨v22, g23, h24⟩ := hbind h21; clear h21
    refine h_gR hx hb hown hV g23 (flRX10_28 hts hK) dX10_resize_138 ?_
    refine lv_iload_n hx hb dX10_resize_141 rfl (hi_at hl 1 rfl) ?_
    refine lv_iload hx hb dX10_resize_142 (hi_at hl 5 rfl) ?_
    obtain ⟨S25, g26, h27⟩ := hbind h24; clear h24
    refine h_iast hx hb hK hV g26 dX10_resize_144 (fun H locs hV => ?_)
    refine lv_bipush (v := -6) hx hb dX10_resize_145 (by decide) ?_
    exact h_iret hx hb hr hlk hV h27 (Nat.le_of_ble_eq_true rfl) (Nat.le_of_ble_eq_true rfl) dX10_resize_147
def fX10_resize_63 (fu : Nat) : Nat → hS → Nat → Int32 → Int32 → Int32 → Int32 → Int32 → Int32 → Option (Int32 × hS)
  | 0, _, _, _, _, _, _, _, _ => none
  | n + 1, S, a0, x1, x2, x3, x4, x5, x6 => if x3 ≤ x6 then ((gR S 9 5 (some a0)).bind fun v2 =>
(sV S 10 v2 x1 (.int x2)).bind fun S5 =>
(gR S5 9 6 (some a0)).bind fun v8 =>
(aI S5 10 v8 x1).bind fun v11 =>
if v11 = (2 : Int32) then (fX10_resize_116 fu S5 a0 x1 x2 x3 x4 x5 (some a0) x1 (0 : Int32)) else (fX10_resize_116 fu S5 a0 x1 x2 x3 x4 x5 (some a0) x1 (1 : Int32))) else ((gR S 9 18 (some a0)).bind fun v15 =>
(gR S 9 3 (some a0)).bind fun v18 =>
(aI S 10 v18 (x4 + x6)).bind fun v21 =>
(sV S 10 v15 x6 (.int v21)).bind fun S24 =>
fX10_resize_63 fu n S24 a0 x1 x2 x3 x4 x5 (x6 + (1 : Int32)))
set_option maxHeartbeats 4000000 in
set_option maxRecDepth 100000 in
theorem kX10_resize_63 {p : Program} {l : Launch} {e : Env} {s : State} {m : MethodId} {args : Array Value} {below : List Frame} {meth : Method} {c : Code} {D : hD} {S0 : hS} {z : Int32 × hS} (C : hCx p m c cX10_resize 7 s args RX10 meth (some .int) D) (fu : Nat) : ∀ (n : Nat) (S : hS) (a0 : Nat) (x1 : Int32) (x2 : Int32) (x3 : Int32) (x4 : Int32) (x5 : Int32) (x6 : Int32) (H : Heap) (locs : List Loc) (ls : Array Slot), fX10_resize_63 fu n S a0 x1 x2 x3 x4 x5 x6 = some z → h_V D (h_A S0) s S H locs → hl_has ls 7 [(0, .inr (some a0)), (1, .inl x1), (2, .inl x2), (3, .inl x3), (4, .inl x4), (5, .inl x5), (6, .inl x6)] → W p l e { frames := 4, cells := 0, slots := 0, locals := 92 } s m args below meth c H locs 0 0 (MQ below (h_Q D (h_A S0) (some (.int z.1)) z.2) args s 0 0 (h_A S0)) (F0 m 63 ls []) := by
  obtain ⟨-, hx, hb, hml, hown, hr, hlk, hK, hts⟩ := id C
  intro n
  induction n with
  | zero =>
    intro S a0 x1 x2 x3 x4 x5 x6 _ _ _ h hV hl
    rw [fX10_resize_63] at h
    cases h
  | succ n ih =>
    intro S a0 x1 x2 x3 x4 x5 x6 _ _ _ h hV hl
    rw [fX10_resize_63] at h
    refine lv_iload hx hb dX10_resize_63 (hi_at hl 6 rfl) ?_
    refine lv_iload_n hx hb dX10_resize_65 rfl (hi_at hl 3 rfl) ?_
    refine lv_icmp_ge (tgt := 92) hx hb dX10_resize_66 (by decide) (fun c1 => ?_) (fun c1 => ?_)
    · rw [if_pos c1] at h
      refine hr_aload_n hx hb dX10_resize_92 rfl (hr_at hl 0 rfl) ?_
      obtain ⟨v2, g3, h4⟩ := hbind h; clear h
      refine h_gR hx hb hown hV g3 (flRX10_13 hts hK) dX10_resize_93 ?_
      refine lv_iload_n hx hb dX10_resize_96 rfl (hi_at hl 1 rfl) ?_
      refine lv_iload_n hx hb dX10_resize_97 rfl (hi_at hl 2 rfl) ?_
      obtain ⟨S5, g6, h7⟩ := hbind h4; clear h4
      refine h_iast hx hb hK hV g6 dX10_resize_98 (fun H locs hV => ?_)
      refine hr_aload_n hx hb dX10_resize_99 rfl (hr_at hl 0 rfl) ?_
      refine lv_iload_n hx hb dX10_resize_100 rfl (hi_at hl 1 rfl) ?_
      refine hr_aload_n hx hb dX10_resize_101 rfl (hr_at hl 0 rfl) ?_
      obtain ⟨v8, g9, h10⟩ := hbind h7; clear h7
      refine h_gR hx hb hown hV g9 (flRX10_16 hts hK) dX10_resize_102 ?_
      refine lv_iload_n hx hb dX10_resize_105 rfl (hi_at hl 1 rfl) ?_
      obtain ⟨v11, g12, h13⟩ := hbind h10; clear h10
      refine h_iald hx hb hK hV g12 dX10_resize_106 ?_
      refine lv_iconst (v := 2) hx hb dX10_resize_107 (by decide) ?_
      refine lv_icmp_eq (tgt := 115) hx hb dX10_resize_108 (by decide) (fun c14 => ?_) (fun c14 => ?_)
      · rw [if_pos c14] at h13
        refine lv_iconst (v := 0) hx hb dX10_resize_115 (by decide) ?_
        exact kX10_resize_116 C fu S5 a0 x1 x2 x3 x4 x5 (some a0) x1 (0 : Int32) _ _ _ h13 hV (hl_sub hl [0, 1, 2, 3, 4, 5] rfl)
      · rw [if_neg c14] at h13
        refine lv_iconst (v := 1) hx hb dX10_resize_111 (by decide) ?_
        refine lv_goto (tgt := 116) hx hb dX10_resize_112 (by decide) ?_
        exact kX10_resize_116 C fu S5 a0 x1 x2 x3 x4 x5 (some a0) x1 (1 : Int32) _ _ _ h13 hV (hl_sub hl [0, 1, 2, 3, 4, 5] rfl)
    · rw [if_neg c1] at h
      refine hr_aload_n hx hb dX10_resize_69 rfl (hr_at hl 0 rfl) ?_
      obtain ⟨v15, g16, h17⟩ := hbind h; clear h
      refine h_gR hx hb hown hV g16 (flRX10_44 hts hK) dX10_resize_70 ?_
      refine lv_iload hx hb dX10_resize_73 (hi_at hl 6 rfl) ?_
      refine hr_aload_n hx hb dX10_resize_75 rfl (hr_at hl 0 rfl) ?_
      obtain ⟨v18, g19, h20⟩ := hbind h17; clear h17
      refine h_gR hx hb hown hV g19 (flRX10_69 hts hK) dX10_resize_76 ?_
      refine lv_iload hx hb dX10_resize_79 (hi_at hl 4 rfl) ?_
      refine lv_iload hx hb dX10_resize_81 (hi_at hl 6 rfl) ?_
      refine lv_iadd hx hb dX10_resize_83 ?_
      obtain ⟨v21, g22, h23⟩ := hbind h20; clear h20
      refine h_iald hx hb hK hV g22 dX10_resize_84 ?_
      obtain ⟨S24, g25, h26⟩ := hbind h23; clear h23
      refine h_iast hx hb hK hV g25 dX10_resize_85 (fun H locs hV => ?_)
      refine h_iinc (v := (x6 + (1 : Int32))) (tl' := [(6, .inl (x6 + (1 : Int32))), (0, .inr (some a0)), (1, .inl x1), (2, .inl x2), (3, .inl x3), (4, .inl x4), (5, .inl x5)]) hx hb dX10_resize_86 hl (k := 6) rfl rfl (by decide) rfl (fun ls hl => ?_)
      refine lv_goto (tgt := 63) hx hb dX10_resize_89 (by decide) ?_
      exact ih S24 a0 x1 x2 x3 x4 x5 (x6 + (1 : Int32)) _ _ _ h26 hV (hl_sub hl [1, 2, 3, 4, 5, 6, 0] rfl)
def fX10_resize (fu : Nat) (S : hS) (a0 : Nat) (x1 : Int32) (x2 : Int32) : Option (Int32 × hS) := (rcv S 9 (some a0)).bind fun b3 => bn2 (fX10_isJob fu S b3 x1) fun r1 S2 => if r1 = 0 then (some ((-1 : Int32), S2)) else ((gR S2 9 4 (some a0)).bind fun v10 =>
(aI S2 10 v10 x1).bind fun v13 =>
if v13 = (1 : Int32) then (if x2 < 0 then (some ((-4 : Int32), S2)) else (if x2 ≤ (1000 : Int32) then ((gR S2 9 5 (some a0)).bind fun v19 =>
(aI S2 10 v19 x1).bind fun v22 =>
(gR S2 9 9 (some a0)).bind fun v25 =>
(aI S2 10 v25 x1).bind fun v28 =>
(gR S2 9 10 (some a0)).bind fun v31 =>
(aI S2 10 v31 x1).bind fun v34 =>
fX10_resize_63 fu fu S2 a0 x1 x2 v22 v28 v34 (0 : Int32)) else (some ((-4 : Int32), S2)))) else (some ((-3 : Int32), S2)))
set_option maxHeartbeats 4000000 in
set_option maxRecDepth 100000 in
theorem mX10_resize (l : Launch) (D : hD) (fu : Nat) (S : hS) (a0 : Nat) (x1 : Int32) (x2 : Int32) (z : Int32 × hS) (h : fX10_resize fu S a0 x1 x2 = some z) : hM l D yX10_resize cX10_resize 7 (some .int) 4 92 0 0 [va_rf (some a0), .int x1, .int x2] S (some (.int z.1)) z.2 := by
  refine h_body [.inr (some a0), .inl x1, .inl x2] RX10 (by decide) rfl (Nat.le_of_ble_eq_true rfl) ?_
  intro p e s m args below meth c C hin ls hV hl
  obtain ⟨-, hx, hb, hml, hown, hr, hlk, hK, hts⟩ := id C
  unfold fX10_resize at h
  refine hr_aload_n hx hb dX10_resize_0 rfl (hr_at hl 0 rfl) ?_
  refine lv_iload_n hx hb dX10_resize_1 rfl (hi_at hl 1 rfl) ?_
  obtain ⟨b3, g4, h5⟩ := hbind h; clear h
  obtain ⟨_, _, e6, q6⟩ := rcv_inv g4
  obtain ⟨r1, S2, g7, h8⟩ := hbn2 h5; clear h5
  refine h_callV (n := 1) (As := [.int x1]) (rest := []) (st1 := [.int r1]) (fr := 1) (lo := 21) (mc := 0) (ms := 0) C.1 hK hV q6 rfl rfl wd839 wd836 wd838 wd50 wd83 ⟨by decide, by decide, by decide⟩ ⟨(Nat.le_of_ble_eq_true rfl), (Nat.le_of_ble_eq_true rfl)⟩ rfl hl.1 (hW_ok [] (Nat.le_of_ble_eq_true rfl)) dX10_resize_2 ⟨(Nat.le_of_ble_eq_true rfl), (Nat.le_of_ble_eq_true rfl)⟩ rfl (by rw [e6]; rfl) (mX10_isJob l D fu S b3 x1 _ g7) (fun H locs hV => ?_)
  refine lv_if_ne (tgt := 10) hx hb dX10_resize_5 (by decide) (fun c9 => ?_) (fun c9 => ?_)
  · rw [if_neg c9] at h8
    refine hr_aload_n hx hb dX10_resize_10 rfl (hr_at hl 0 rfl) ?_
    obtain ⟨v10, g11, h12⟩ := hbind h8; clear h8
    refine h_gR hx hb hown hV g11 (flRX10_9 hts hK) dX10_resize_11 ?_
    refine lv_iload_n hx hb dX10_resize_14 rfl (hi_at hl 1 rfl) ?_
    obtain ⟨v13, g14, h15⟩ := hbind h12; clear h12
    refine h_iald hx hb hK hV g14 dX10_resize_15 ?_
    refine lv_iconst (v := 1) hx hb dX10_resize_16 (by decide) ?_
    refine lv_icmp_eq (tgt := 23) hx hb dX10_resize_17 (by decide) (fun c16 => ?_) (fun c16 => ?_)
    · rw [if_pos c16] at h15
      refine lv_iload_n hx hb dX10_resize_23 rfl (hi_at hl 2 rfl) ?_
      refine lv_if_lt (tgt := 34) hx hb dX10_resize_24 (by decide) (fun c17 => ?_) (fun c17 => ?_)
      · rw [if_pos c17] at h15
        refine lv_bipush (v := -4) hx hb dX10_resize_34 (by decide) ?_
        exact h_iret hx hb hr hlk hV h15 (Nat.le_of_ble_eq_true rfl) (Nat.le_of_ble_eq_true rfl) dX10_resize_36
      · rw [if_neg c17] at h15
        refine lv_iload_n hx hb dX10_resize_27 rfl (hi_at hl 2 rfl) ?_
        refine lv_sipush (v := 1000) hx hb dX10_resize_28 (by decide) ?_
        refine lv_icmp_le (tgt := 37) hx hb dX10_resize_31 (by decide) (fun c18 => ?_) (fun c18 => ?_)
        · rw [if_pos c18] at h15
          refine hr_aload_n hx hb dX10_resize_37 rfl (hr_at hl 0 rfl) ?_
          obtain ⟨v19, g20, h21⟩ := hbind h15; clear h15
          refine h_gR hx hb hown hV g20 (flRX10_13 hts hK) dX10_resize_38 ?_
          refine lv_iload_n hx hb dX10_resize_41 rfl (hi_at hl 1 rfl) ?_
          obtain ⟨v22, g23, h24⟩ := hbind h21; clear h21
          refine h_iald hx hb hK hV g23 dX10_resize_42 ?_
          refine h_istore_n (tl' := [(3, .inl v22), (0, .inr (some a0)), (1, .inl x1), (2, .inl x2)]) hx hb dX10_resize_43 rfl hl (by decide) rfl (fun ls hl => ?_)
          refine hr_aload_n hx hb dX10_resize_44 rfl (hr_at hl 1 rfl) ?_
          obtain ⟨v25, g26, h27⟩ := hbind h24; clear h24
          refine h_gR hx hb hown hV g26 (flRX10_25 hts hK) dX10_resize_45 ?_
          refine lv_iload_n hx hb dX10_resize_48 rfl (hi_at hl 2 rfl) ?_
          obtain ⟨v28, g29, h30⟩ := hbind h27; clear h27
          refine h_iald hx hb hK hV g29 dX10_resize_49 ?_
          refine h_istore (tl' := [(4, .inl v28), (3, .inl v22), (0, .inr (some a0)), (1, .inl x1), (2, .inl x2)]) hx hb dX10_resize_50 hl (by decide) rfl (fun ls hl => ?_)
          refine hr_aload_n hx hb dX10_resize_52 rfl (hr_at hl 2 rfl) ?_
          obtain ⟨v31, g32, h33⟩ := hbind h30; clear h30
          refine h_gR hx hb hown hV g32 (flRX10_28 hts hK) dX10_resize_53 ?_
          refine lv_iload_n hx hb dX10_resize_56 rfl (hi_at hl 3 rfl) ?_
          obtain ⟨v34, g35, h36⟩ := hbind h33; clear h33
          refine h_iald hx hb hK hV g35 dX10_resize_57 ?_
          refine h_istore (tl' := [(5, .inl v34), (4, .inl v28), (3, .inl v22), (0, .inr (some a0)), (1, .inl x1), (2, .inl x2)]) hx hb dX10_resize_58 hl (by decide) rfl (fun ls hl => ?_)
          refine lv_iconst (v := 0) hx hb dX10_resize_60 (by decide) ?_
          refine h_istore (tl' := [(6, .inl (0 : Int32)), (5, .inl v34), (4, .inl v28), (3, .inl v22), (0, .inr (some a0)), (1, .inl x1), (2, .inl x2)]) hx hb dX10_resize_61 hl (by decide) rfl (fun ls hl => ?_)
          exact kX10_resize_63 C fu fu S2 a0 x1 x2 v22 v28 v34 (0 : Int32) _ _ _ h36 hV (hl_sub hl [4, 5, 6, 3, 2, 1, 0] rfl)
        · rw [if_neg c18] at h15
          refine lv_bipush (v := -4) hx hb dX10_resize_34 (by decide) ?_
          exact h_iret hx hb hr hlk hV h15 (Nat.le_of_ble_eq_true rfl) (Nat.le_of_ble_eq_true rfl) dX10_resize_36
    · rw [if_neg c16] at h15
      refine lv_bipush (v := -3) hx hb dX10_resize_20 (by decide) ?_
      exact h_iret hx hb hr hlk hV h15 (Nat.le_of_ble_eq_true rfl) (Nat.le_of_ble_eq_true rfl) dX10_resize_22
  · rw [if_pos c9] at h8
    refine lv_iconst (v := -1) hx hb dX10_resize_8 (by decide) ?_
    exact h_iret hx hb hr hlk hV h8 (Nat.le_of_ble_eq_true rfl) (Nat.le_of_ble_eq_true rfl) dX10_resize_9
def fX10_goesToEnd (fu : Nat) (S : hS) (a0 : Nat) (x1 : Int32) : Option (Unit × hS) := (gR S 9 11 (some a0)).bind fun v1 => (gI S 9 16 (some a0)).bind fun v4 => (sV S 10 v1 x1 (.int v4)).bind fun S7 => (gI S7 9 16 (some a0)).bind fun v10 => (pV S7 9 16 (some a0) (.int (v10 + (1 : Int32)))).bind fun S13 => some ((), S13)
set_option maxHeartbeats 4000000 in
set_option maxRecDepth 100000 in
theorem mX10_goesToEnd (l : Launch) (D : hD) (fu : Nat) (S : hS) (a0 : Nat) (x1 : Int32) (z : Unit × hS) (h : fX10_goesToEnd fu S a0 x1 = some z) : hM l D yX10_goesToEnd cX10_goesToEnd 2 none 0 0 0 0 [va_rf (some a0), .int x1] S none z.2 := by
  refine h_body [.inr (some a0), .inl x1] RX10 (by decide) rfl (Nat.le_of_ble_eq_true rfl) ?_
  intro p e s m args below meth c C hin ls hV hl
  obtain ⟨-, hx, hb, hml, hown, hr, hlk, hK, hts⟩ := id C
  unfold fX10_goesToEnd at h
  refine hr_aload_n hx hb dX10_goesToEnd_0 rfl (hr_at hl 0 rfl) ?_
  obtain ⟨v1, g2, h3⟩ := hbind h; clear h
  refine h_gR hx hb hown hV g2 (flRX10_31 hts hK) dX10_goesToEnd_1 ?_
  refine lv_iload_n hx hb dX10_goesToEnd_4 rfl (hi_at hl 1 rfl) ?_
  refine hr_aload_n hx hb dX10_goesToEnd_5 rfl (hr_at hl 0 rfl) ?_
  obtain ⟨v4, g5, h6⟩ := hbind h3; clear h3
  refine h_gI hx hb hown hV g5 (flRX10_99 hts hK) dX10_goesToEnd_6 ?_
  obtain ⟨S7, g8, h9⟩ := hbind h6; clear h6
  refine h_iast hx hb hK hV g8 dX10_goesToEnd_9 (fun H locs hV => ?_)
  refine hr_aload_n hx hb dX10_goesToEnd_10 rfl (hr_at hl 0 rfl) ?_
  refine hr_dup hx hb dX10_goesToEnd_11 ?_
  obtain ⟨v10, g11, h12⟩ := hbind h9; clear h9
  refine h_gI hx hb hown hV g11 (flRX10_99 hts hK) dX10_goesToEnd_12 ?_
  refine lv_iconst (v := 1) hx hb dX10_goesToEnd_15 (by decide) ?_
  refine lv_iadd hx hb dX10_goesToEnd_16 ?_
  obtain ⟨S13, g14, h15⟩ := hbind h12; clear h12
  refine h_put hx hb hown hV g14 (fpRX10_99 hts hK) rfl rfl dX10_goesToEnd_17 (fun H locs hV => ?_)
  exact h_vret hx hb hr hlk hV h15 (Nat.le_of_ble_eq_true rfl) (Nat.le_of_ble_eq_true rfl) dX10_goesToEnd_20
def fX10_takesUp (fu : Nat) (S : hS) (a0 : Nat) (x1 : Int32) : Option (Unit × hS) := (pV S 9 20 (some a0) (.int x1)).bind fun S1 => (gR S1 9 5 (some a0)).bind fun v4 => (aI S1 10 v4 x1).bind fun v7 => (pV S1 9 21 (some a0) (.int v7)).bind fun S10 => (gR S10 9 19 (some a0)).bind fun v13 => (aI S10 10 v13 ((10 : Int32) * x1)).bind fun v16 => (pV S10 9 22 (some a0) (.int v16)).bind fun S19 => (gR S19 9 19 (some a0)).bind fun v22 => (aI S19 10 v22 (((10 : Int32) * x1) + (1 : Int32))).bind fun v25 => (pV S19 9 23 (some a0) (.int v25)).bind fun S28 => (gR S28 9 19 (some a0)).bind fun v31 => (aI S28 10 v31 (((10 : Int32) * x1) + (2 : Int32))).bind fun v34 => (pV S28 9 24 (some a0) (.int v34)).bind fun S37 => (gR S37 9 19 (some a0)).bind fun v40 => (aI S37 10 v40 (((10 : Int32) * x1) + (3 : Int32))).bind fun v43 => (pV S37 9 25 (some a0) (.int v43)).bind fun S46 => (gR S46 9 19 (some a0)).bind fun v49 => (aI S46 10 v49 (((10 : Int32) * x1) + (4 : Int32))).bind fun v52 => (pV S46 9 26 (some a0) (.int v52)).bind fun S55 => (gR S55 9 19 (some a0)).bind fun v58 => (aI S55 10 v58 (((10 : Int32) * x1) + (5 : Int32))).bind fun v61 => (pV S55 9 27 (some a0) (.int v61)).bind fun S64 => (gR S64 9 19 (some a0)).bind fun v67 => (aI S64 10 v67 (((10 : Int32) * x1) + (6 : Int32))).bind fun v70 => (pV S64 9 28 (some a0) (.int v70)).bind fun S73 => (gR S73 9 19 (some a0)).bind fun v76 => (aI S73 10 v76 (((10 : Int32) * x1) + (7 : Int32))).bind fun v79 => (pV S73 9 29 (some a0) (.int v79)).bind fun S82 => (gR S82 9 19 (some a0)).bind fun v85 => (aI S82 10 v85 (((10 : Int32) * x1) + (8 : Int32))).bind fun v88 => (pV S82 9 30 (some a0) (.int v88)).bind fun S91 => (gR S91 9 19 (some a0)).bind fun v94 => (aI S91 10 v94 (((10 : Int32) * x1) + (9 : Int32))).bind fun v97 => (pV S91 9 31 (some a0) (.int v97)).bind fun S100 => some ((), S100)
set_option maxHeartbeats 4000000 in
set_option maxRecDepth 100000 in
theorem mX10_takesUp (l : Launch) (D : hD) (fu : Nat) (S : hS) (a0 : Nat) (x1 : Int32) (z : Unit × hS) (h : fX10_takesUp fu S a0 x1 = some z) : hM l D yX10_takesUp cX10_takesUp 3 none 0 0 0 0 [va_rf (some a0), .int x1] S none z.2 := by
  refine h_body [.inr (some a0), .inl x1] RX10 (by decide) rfl (Nat.le_of_ble_eq_true rfl) ?_
  intro p e s m args below meth c C hin ls hV hl
  obtain ⟨-, hx, hb, hml, hown, hr, hlk, hK, hts⟩ := id C
  unfold fX10_takesUp at h
  refine hr_aload_n hx hb dX10_takesUp_0 rfl (hr_at hl 0 rfl) ?_
  refine lv_iload_n hx hb dX10_takesUp_1 rfl (hi_at hl 1 rfl) ?_
  obtain ⟨S1, g2, h3⟩ := hbind h; clear h
  refine h_put hx hb hown hV g2 (fpRX10_119 hts hK) rfl rfl dX10_takesUp_2 (fun H locs hV => ?_)
  refine hr_aload_n hx hb dX10_takesUp_5 rfl (hr_at hl 0 rfl) ?_
  refine hr_aload_n hx hb dX10_takesUp_6 rfl (hr_at hl 0 rfl) ?_
  obtain ⟨v4, g5, h6⟩ := hbind h3; clear h3
  refine h_gR hx hb hown hV g5 (flRX10_13 hts hK) dX10_takesUp_7 ?_
  refine lv_iload_n hx hb dX10_takesUp_10 rfl (hi_at hl 1 rfl) ?_
  obtain ⟨v7, g8, h9⟩ := hbind h6; clear h6
  refine h_iald hx hb hK hV g8 dX10_takesUp_11 ?_
  obtain ⟨S10, g11, h12⟩ := hbind h9; clear h9
  refine h_put hx hb hown hV g11 (fpRX10_122 hts hK) rfl rfl dX10_takesUp_12 (fun H locs hV => ?_)
  refine lv_bipush (v := 10) hx hb dX10_takesUp_15 (by decide) ?_
  refine lv_iload_n hx hb dX10_takesUp_17 rfl (hi_at hl 1 rfl) ?_
  refine lv_imul hx hb dX10_takesUp_18 ?_
  refine h_istore_n (tl' := [(2, .inl ((10 : Int32) * x1)), (0, .inr (some a0)), (1, .inl x1)]) hx hb dX10_takesUp_19 rfl hl (by decide) rfl (fun ls hl => ?_)
  refine hr_aload_n hx hb dX10_takesUp_20 rfl (hr_at hl 1 rfl) ?_
  refine hr_aload_n hx hb dX10_takesUp_21 rfl (hr_at hl 1 rfl) ?_
  obtain ⟨v13, g14, h15⟩ := hbind h12; clear h12
  refine h_gR hx hb hown hV g14 (flRX10_47 hts hK) dX10_takesUp_22 ?_
  refine lv_iload_n hx hb dX10_takesUp_25 rfl (hi_at hl 0 rfl) ?_
  obtain ⟨v16, g17, h18⟩ := hbind h15; clear h15
  refine h_iald hx hb hK hV g17 dX10_takesUp_26 ?_
  obtain ⟨S19, g20, h21⟩ := hbind h18; clear h18
  refine h_put hx hb hown hV g20 (fpRX10_125 hts hK) rfl rfl dX10_takesUp_27 (fun H locs hV => ?_)
  refine hr_aload_n hx hb dX10_takesUp_30 rfl (hr_at hl 1 rfl) ?_
  refine hr_aload_n hx hb dX10_takesUp_31 rfl (hr_at hl 1 rfl) ?_
  obtain ⟨v22, g23, h24⟩ := hbind h21; clear h21
  refine h_gR hx hb hown hV g23 (flRX10_47 hts hK) dX10_takesUp_32 ?_
  refine lv_iload_n hx hb dX10_takesUp_35 rfl (hi_at hl 0 rfl) ?_
  refine lv_iconst (v := 1) hx hb dX10_takesUp_36 (by decide) ?_
  refine lv_iadd hx hb dX10_takesUp_37 ?_
  obtain ⟨v25, g26, h27⟩ := hbind h24; clear h24
  refine h_iald hx hb hK hV g26 dX10_takesUp_38 ?_
  obtain ⟨S28, g29, h30⟩ := hbind h27; clear h27
  refine h_put hx hb hown hV g29 (fpRX10_128 hts hK) rfl rfl dX10_takesUp_39 (fun H locs hV => ?_)
  refine hr_aload_n hx hb dX10_takesUp_42 rfl (hr_at hl 1 rfl) ?_
  refine hr_aload_n hx hb dX10_takesUp_43 rfl (hr_at hl 1 rfl) ?_
  obtain ⟨v31, g32, h33⟩ := hbind h30; clear h30
  refine h_gR hx hb hown hV g32 (flRX10_47 hts hK) dX10_takesUp_44 ?_
  refine lv_iload_n hx hb dX10_takesUp_47 rfl (hi_at hl 0 rfl) ?_
  refine lv_iconst (v := 2) hx hb dX10_takesUp_48 (by decide) ?_
  refine lv_iadd hx hb dX10_takesUp_49 ?_
  obtain ⟨v34, g35, h36⟩ := hbind h33; clear h33
  refine h_iald hx hb hK hV g35 dX10_takesUp_50 ?_
  obtain ⟨S37, g38, h39⟩ := hbind h36; clear h36
  refine h_put hx hb hown hV g38 (fpRX10_131 hts hK) rfl rfl dX10_takesUp_51 (fun H locs hV => ?_)
  refine hr_aload_n hx hb dX10_takesUp_54 rfl (hr_at hl 1 rfl) ?_
  refine hr_aload_n hx hb dX10_takesUp_55 rfl (hr_at hl 1 rfl) ?_
  obtain ⟨v40, g41, h42⟩ := hbind h39; clear h39
  refine h_gR hx hb hown hV g41 (flRX10_47 hts hK) dX10_takesUp_56 ?_
  refine lv_iload_n hx hb dX10_takesUp_59 rfl (hi_at hl 0 rfl) ?_
  refine lv_iconst (v := 3) hx hb dX10_takesUp_60 (by decide) ?_
  refine lv_iadd hx hb dX10_takesUp_61 ?_
  obtain ⟨v43, g44, h45⟩ := hbind h42; clear h42
  refine h_iald hx hb hK hV g44 dX10_takesUp_62 ?_
  obtain ⟨S46, g47, h48⟩ := hbind h45; clear h45
  refine h_put hx hb hown hV g47 (fpRX10_134 hts hK) rfl rfl dX10_takesUp_63 (fun H locs hV => ?_)
  refine hr_aload_n hx hb dX10_takesUp_66 rfl (hr_at hl 1 rfl) ?_
  refine hr_aload_n hx hb dX10_takesUp_67 rfl (hr_at hl 1 rfl) ?_
  obtain ⟨v49, g50, h51⟩ := hbind h48; clear h48
  refine h_gR hx hb hown hV g50 (flRX10_47 hts hK) dX10_takesUp_68 ?_
  refine lv_iload_n hx hb dX10_takesUp_71 rfl (hi_at hl 0 rfl) ?_
  refine lv_iconst (v := 4) hx hb dX10_takesUp_72 (by decide) ?_
  refine lv_iadd hx hb dX10_takesUp_73 ?_
  obtain ⟨v52, g53, h54⟩ := hbind h51; clear h51
  refine h_iald hx hb hK hV g53 dX10_takesUp_74 ?_
  obtain ⟨S55, g56, h57⟩ := hbind h54; clear h54
  refine h_put hx hb hown hV g56 (fpRX10_137 hts hK) rfl rfl dX10_takesUp_75 (fun H locs hV => ?_)
  refine hr_aload_n hx hb dX10_takesUp_78 rfl (hr_at hl 1 rfl) ?_
  refine hr_aload_n hx hb dX10_takesUp_79 rfl (hr_at hl 1 rfl) ?_
  obtain ⟨v58, g59, h60⟩ := hbind h57; clear h57
  refine h_gR hx hb hown hV g59 (flRX10_47 hts hK) dX10_takesUp_80 ?_
  refine lv_iload_n hx hb dX10_takesUp_83 rfl (hi_at hl 0 rfl) ?_
  refine lv_iconst (v := 5) hx hb dX10_takesUp_84 (by decide) ?_
  refine lv_iadd hx hb dX10_takesUp_85 ?_
  obtain ⟨v61, g62, h63⟩ := hbind h60; clear h60
  refine h_iald hx hb hK hV g62 dX10_takesUp_86 ?_
  obtain ⟨S64, g65, h66⟩ := hbind h63; clear h63
  refine h_put hx hb hown hV g65 (fpRX10_140 hts hK) rfl rfl dX10_takesUp_87 (fun H locs hV => ?_)
  refine hr_aload_n hx hb dX10_takesUp_90 rfl (hr_at hl 1 rfl) ?_
  refine hr_aload_n hx hb dX10_takesUp_91 rfl (hr_at hl 1 rfl) ?_
  obtain ⟨v67, g68, h69⟩ := hbind h66; clear h66
  refine h_gR hx hb hown hV g68 (flRX10_47 hts hK) dX10_takesUp_92 ?_
  refine lv_iload_n hx hb dX10_takesUp_95 rfl (hi_at hl 0 rfl) ?_
  refine lv_bipush (v := 6) hx hb dX10_takesUp_96 (by decide) ?_
  refine lv_iadd hx hb dX10_takesUp_98 ?_
  obtain ⟨v70, g71, h72⟩ := hbind h69; clear h69
  refine h_iald hx hb hK hV g71 dX10_takesUp_99 ?_
  obtain ⟨S73, g74, h75⟩ := hbind h72; clear h72
  refine h_put hx hb hown hV g74 (fpRX10_143 hts hK) rfl rfl dX10_takesUp_100 (fun H locs hV => ?_)
  refine hr_aload_n hx hb dX10_takesUp_103 rfl (hr_at hl 1 rfl) ?_
  refine hr_aload_n hx hb dX10_takesUp_104 rfl (hr_at hl 1 rfl) ?_
  obtain ⟨v76, g77, h78⟩ := hbind h75; clear h75
  refine h_gR hx hb hown hV g77 (flRX10_47 hts hK) dX10_takesUp_105 ?_
  refine lv_iload_n hx hb dX10_takesUp_108 rfl (hi_at hl 0 rfl) ?_
  refine lv_bipush (v := 7) hx hb dX10_takesUp_109 (by decide) ?_
  refine lv_iadd hx hb dX10_takesUp_111 ?_
  obtain ⟨v79, g80, h81⟩ := hbind h78; clear h78
  refine h_iald hx hb hK hV g80 dX10_takesUp_112 ?_
  obtain ⟨S82, g83, h84⟩ := hbind h81; clear h81
  refine h_put hx hb hown hV g83 (fpRX10_146 hts hK) rfl rfl dX10_takesUp_113 (fun H locs hV => ?_)
  refine hr_aload_n hx hb dX10_takesUp_116 rfl (hr_at hl 1 rfl) ?_
  refine hr_aload_n hx hb dX10_takesUp_117 rfl (hr_at hl 1 rfl) ?_
  obtain ⟨v85, g86, h87⟩ := hbind h84; clear h84
  refine h_gR hx hb hown hV g86 (flRX10_47 hts hK) dX10_takesUp_118 ?_
  refine lv_iload_n hx hb dX10_takesUp_121 rfl (hi_at hl 0 rfl) ?_
  refine lv_bipush (v := 8) hx hb dX10_takesUp_122 (by decide) ?_
  refine lv_iadd hx hb dX10_takesUp_124 ?_
  obtain ⟨v88, g89, h90⟩ := hbind h87; clear h87
  refine h_iald hx hb hK hV g89 dX10_takesUp_125 ?_
  obtain ⟨S91, g92, h93⟩ := hbind h90; clear h90
  refine h_put hx hb hown hV g92 (fpRX10_149 hts hK) rfl rfl dX10_takesUp_126 (fun H locs hV => ?_)
  refine hr_aload_n hx hb dX10_takesUp_129 rfl (hr_at hl 1 rfl) ?_
  refine hr_aload_n hx hb dX10_takesUp_130 rfl (hr_at hl 1 rfl) ?_
  obtain ⟨v94, g95, h96⟩ := hbind h93; clear h93
  refine h_gR hx hb hown hV g95 (flRX10_47 hts hK) dX10_takesUp_131 ?_
  refine lv_iload_n hx hb dX10_takesUp_134 rfl (hi_at hl 0 rfl) ?_
  refine lv_bipush (v := 9) hx hb dX10_takesUp_135 (by decide) ?_
  refine lv_iadd hx hb dX10_takesUp_137 ?_
  obtain ⟨v97, g98, h99⟩ := hbind h96; clear h96
  refine h_iald hx hb hK hV g98 dX10_takesUp_138 ?_
  obtain ⟨S100, g101, h102⟩ := hbind h99; clear h99
  refine h_put hx hb hown hV g101 (fpRX10_152 hts hK) rfl rfl dX10_takesUp_139 (fun H locs hV => ?_)
  exact h_vret hx hb hr hlk hV h102 (Nat.le_of_ble_eq_true rfl) (Nat.le_of_ble_eq_true rfl) dX10_takesUp_142
def fX10_stepsStand_88 (fu : Nat) (k0 : hS → Nat → Option (Int32 × hS)) (S : hS) (a0 : Nat) (t0 : Option Nat) (t1 : Int32) : Option (Int32 × hS) := (pV S 9 22 t0 (.int t1)).bind fun S1 => (gI S1 9 22 (some a0)).bind fun v4 => (pV S1 9 23 (some a0) (.int v4)).bind fun S7 => (gI S7 9 22 (some a0)).bind fun v10 => (pV S7 9 24 (some a0) (.int v10)).bind fun S13 => k0 S13 a0
set_option maxHeartbeats 4000000 in
set_option maxRecDepth 100000 in
theorem kX10_stepsStand_88 {p : Program} {l : Launch} {e : Env} {s : State} {m : MethodId} {args : Array Value} {below : List Frame} {meth : Method} {c : Code} {D : hD} {S0 : hS} {z : Int32 × hS} (C : hCx p m c cX10_stepsStand 1 s args RX10 meth (some .boolean) D) (fu : Nat) (k0 : hS → Nat → Option (Int32 × hS)) (hk0 : ∀ (S : hS) (a0 : Nat) (H : Heap) (locs : List Loc) (ls : Array Slot), k0 S a0 = some z → h_V D (h_A S0) s S H locs → hl_has ls 1 [(0, .inr (some a0))] → W p l e { frames := 0, cells := 0, slots := 0, locals := 0 } s m args below meth c H locs 0 0 (MQ below (h_Q D (h_A S0) (some (.int z.1)) z.2) args s 0 0 (h_A S0)) (F0 m 0 ls [])) : ∀ (S : hS) (a0 : Nat) (t0 : Option Nat) (t1 : Int32) (H : Heap) (locs : List Loc) (ls : Array Slot), fX10_stepsStand_88 fu k0 S a0 t0 t1 = some z → h_V D (h_A S0) s S H locs → hl_has ls 1 [(0, .inr (some a0))] → W p l e { frames := 0, cells := 0, slots := 0, locals := 0 } s m args below meth c H locs 0 0 (MQ below (h_Q D (h_A S0) (some (.int z.1)) z.2) args s 0 0 (h_A S0)) (F0 m 88 ls [.int t1, va_rf t0]) := by
  obtain ⟨-, hx, hb, hml, hown, hr, hlk, hK, hts⟩ := id C
  intro S a0 t0 t1 _ _ _ h hV hl
  unfold fX10_stepsStand_88 at h
  obtain ⟨S1, g2, h3⟩ := hbind h; clear h
  refine h_put hx hb hown hV g2 (fpRX10_125 hts hK) rfl rfl dX10_stepsStand_88 (fun H locs hV => ?_)
  refine hr_aload_n hx hb dX10_stepsStand_91 rfl (hr_at hl 0 rfl) ?_
  refine hr_aload_n hx hb dX10_stepsStand_92 rfl (hr_at hl 0 rfl) ?_
  obtain ⟨v4, g5, h6⟩ := hbind h3; clear h3
  refine h_gI hx hb hown hV g5 (flRX10_125 hts hK) dX10_stepsStand_93 ?_
  obtain ⟨S7, g8, h9⟩ := hbind h6; clear h6
  refine h_put hx hb hown hV g8 (fpRX10_128 hts hK) rfl rfl dX10_stepsStand_96 (fun H locs hV => ?_)
  refine hr_aload_n hx hb dX10_stepsStand_99 rfl (hr_at hl 0 rfl) ?_
  refine hr_aload_n hx hb dX10_stepsStand_100 rfl (hr_at hl 0 rfl) ?_
  obtain ⟨v10, g11, h12⟩ := hbind h9; clear h9
  refine h_gI hx hb hown hV g11 (flRX10_125 hts hK) dX10_stepsStand_101 ?_
  obtain ⟨S13, g14, h15⟩ := hbind h12; clear h12
  refine h_put hx hb hown hV g14 (fpRX10_131 hts hK) rfl rfl dX10_stepsStand_104 (fun H locs hV => ?_)
  refine lv_goto (tgt := 0) hx hb dX10_stepsStand_107 (by decide) ?_
  exact hk0 S13 a0 _ _ _ h15 hV (hl_sub hl [0] rfl)
def fX10_stepsStand_31 (fu : Nat) (k0 : hS → Nat → Option (Int32 × hS)) (S : hS) (a0 : Nat) : Option (Int32 × hS) := (gI S 9 23 (some a0)).bind fun v1 => (gI S 9 21 (some a0)).bind fun v4 => if v4 ≤ v1 then ((gR S 9 6 (some a0)).bind fun v8 =>
(gI S 9 20 (some a0)).bind fun v11 =>
(aI S 10 v8 v11).bind fun v14 =>
if v14 = 0 then (fX10_stepsStand_88 fu k0 S a0 (some a0) (0 : Int32)) else ((gI S 9 22 (some a0)).bind fun v18 =>
fX10_stepsStand_88 fu k0 S a0 (some a0) ((v18 - (1 : Int32)) / (3 : Int32)))) else ((gI S 9 23 (some a0)).bind fun v21 =>
(pV S 9 23 (some a0) (.int (v21 + (1 : Int32)))).bind fun S24 =>
(gI S24 9 23 (some a0)).bind fun v27 =>
(pV S24 9 24 (some a0) (.int v27)).bind fun S30 =>
k0 S30 a0)
set_option maxHeartbeats 4000000 in
set_option maxRecDepth 100000 in
theorem kX10_stepsStand_31 {p : Program} {l : Launch} {e : Env} {s : State} {m : MethodId} {args : Array Value} {below : List Frame} {meth : Method} {c : Code} {D : hD} {S0 : hS} {z : Int32 × hS} (C : hCx p m c cX10_stepsStand 1 s args RX10 meth (some .boolean) D) (fu : Nat) (k0 : hS → Nat → Option (Int32 × hS)) (hk0 : ∀ (S : hS) (a0 : Nat) (H : Heap) (locs : List Loc) (ls : Array Slot), k0 S a0 = some z → h_V D (h_A S0) s S H locs → hl_has ls 1 [(0, .inr (some a0))] → W p l e { frames := 0, cells := 0, slots := 0, locals := 0 } s m args below meth c H locs 0 0 (MQ below (h_Q D (h_A S0) (some (.int z.1)) z.2) args s 0 0 (h_A S0)) (F0 m 0 ls [])) : ∀ (S : hS) (a0 : Nat) (H : Heap) (locs : List Loc) (ls : Array Slot), fX10_stepsStand_31 fu k0 S a0 = some z → h_V D (h_A S0) s S H locs → hl_has ls 1 [(0, .inr (some a0))] → W p l e { frames := 0, cells := 0, slots := 0, locals := 0 } s m args below meth c H locs 0 0 (MQ below (h_Q D (h_A S0) (some (.int z.1)) z.2) args s 0 0 (h_A S0)) (F0 m 31 ls []) := by
  obtain ⟨-, hx, hb, hml, hown, hr, hlk, hK, hts⟩ := id C
  intro S a0 _ _ _ h hV hl
  unfold fX10_stepsStand_31 at h
  refine hr_aload_n hx hb dX10_stepsStand_31 rfl (hr_at hl 0 rfl) ?_
  obtain ⟨v1, g2, h3⟩ := hbind h; clear h
  refine h_gI hx hb hown hV g2 (flRX10_128 hts hK) dX10_stepsStand_32 ?_
  refine hr_aload_n hx hb dX10_stepsStand_35 rfl (hr_at hl 0 rfl) ?_
  obtain ⟨v4, g5, h6⟩ := hbind h3; clear h3
  refine h_gI hx hb hown hV g5 (flRX10_122 hts hK) dX10_stepsStand_36 ?_
  refine lv_icmp_ge (tgt := 63) hx hb dX10_stepsStand_39 (by decide) (fun c7 => ?_) (fun c7 => ?_)
  · rw [if_pos c7] at h6
    refine hr_aload_n hx hb dX10_stepsStand_63 rfl (hr_at hl 0 rfl) ?_
    refine hr_aload_n hx hb dX10_stepsStand_64 rfl (hr_at hl 0 rfl) ?_
    obtain ⟨v8, g9, h10⟩ := hbind h6; clear h6
    refine h_gR hx hb hown hV g9 (flRX10_16 hts hK) dX10_stepsStand_65 ?_
    refine hr_aload_n hx hb dX10_stepsStand_68 rfl (hr_at hl 0 rfl) ?_
    obtain ⟨v11, g12, h13⟩ := hbind h10; clear h10
    refine h_gI hx hb hown hV g12 (flRX10_119 hts hK) dX10_stepsStand_69 ?_
    obtain ⟨v14, g15, h16⟩ := hbind h13; clear h13
    refine h_iald hx hb hK hV g15 dX10_stepsStand_72 ?_
    refine lv_if_ne (tgt := 80) hx hb dX10_stepsStand_73 (by decide) (fun c17 => ?_) (fun c17 => ?_)
    · rw [if_neg c17] at h16
      refine hr_aload_n hx hb dX10_stepsStand_80 rfl (hr_at hl 0 rfl) ?_
      obtain ⟨v18, g19, h20⟩ := hbind h16; clear h16
      refine h_gI hx hb hown hV g19 (flRX10_125 hts hK) dX10_stepsStand_81 ?_
      refine lv_iconst (v := 1) hx hb dX10_stepsStand_84 (by decide) ?_
      refine lv_isub hx hb dX10_stepsStand_85 ?_
      refine lv_iconst (v := 3) hx hb dX10_stepsStand_86 (by decide) ?_
      refine lv_idiv hx hb dX10_stepsStand_87 (by decide) ?_
      exact kX10_stepsStand_88 C fu k0 hk0 S a0 (some a0) ((v18 - (1 : Int32)) / (3 : Int32)) _ _ _ h20 hV (hl_sub hl [0] rfl)
    · rw [if_pos c17] at h16
      refine lv_iconst (v := 0) hx hb dX10_stepsStand_76 (by decide) ?_
      refine lv_goto (tgt := 88) hx hb dX10_stepsStand_77 (by decide) ?_
      exact kX10_stepsStand_88 C fu k0 hk0 S a0 (some a0) (0 : Int32) _ _ _ h16 hV (hl_sub hl [0] rfl)
  · rw [if_neg c7] at h6
    refine hr_aload_n hx hb dX10_stepsStand_42 rfl (hr_at hl 0 rfl) ?_
    refine hr_dup hx hb dX10_stepsStand_43 ?_
    obtain ⟨v21, g22, h23⟩ := hbind h6; clear h6
    refine h_gI hx hb hown hV g22 (flRX10_128 hts hK) dX10_stepsStand_44 ?_
    refine lv_iconst (v := 1) hx hb dX10_stepsStand_47 (by decide) ?_
    refine lv_iadd hx hb dX10_stepsStand_48 ?_
    obtain ⟨S24, g25, h26⟩ := hbind h23; clear h23
    refine h_put hx hb hown hV g25 (fpRX10_128 hts hK) rfl rfl dX10_stepsStand_49 (fun H locs hV => ?_)
    refine hr_aload_n hx hb dX10_stepsStand_52 rfl (hr_at hl 0 rfl) ?_
    refine hr_aload_n hx hb dX10_stepsStand_53 rfl (hr_at hl 0 rfl) ?_
    obtain ⟨v27, g28, h29⟩ := hbind h26; clear h26
    refine h_gI hx hb hown hV g28 (flRX10_128 hts hK) dX10_stepsStand_54 ?_
    obtain ⟨S30, g31, h32⟩ := hbind h29; clear h29
    refine h_put hx hb hown hV g31 (fpRX10_131 hts hK) rfl rfl dX10_stepsStand_57 (fun H locs hV => ?_)
    refine lv_goto (tgt := 0) hx hb dX10_stepsStand_60 (by decide) ?_
    exact hk0 S30 a0 _ _ _ h32 hV (hl_sub hl [0] rfl)
def fX10_stepsStand_0 (fu : Nat) : Nat → hS → Nat → Option (Int32 × hS)
  | 0, _, _ => none
  | n + 1, S, a0 => (gI S 9 22 (some a0)).bind fun v1 => if v1 ≤ 0 then ((zz (0 : Int32)).bind (fun v => some (v, S))) else ((gI S 9 23 (some a0)).bind fun v5 =>
(gI S 9 21 (some a0)).bind fun v8 =>
if v8 ≤ v5 then (fX10_stepsStand_31 fu (fX10_stepsStand_0 fu n) S a0) else ((gI S 9 24 (some a0)).bind fun v12 =>
(gI S 9 22 (some a0)).bind fun v15 =>
if v12 < v15 then (fX10_stepsStand_31 fu (fX10_stepsStand_0 fu n) S a0) else ((zz (1 : Int32)).bind (fun v => some (v, S)))))
set_option maxHeartbeats 4000000 in
set_option maxRecDepth 100000 in
theorem kX10_stepsStand_0 {p : Program} {l : Launch} {e : Env} {s : State} {m : MethodId} {args : Array Value} {below : List Frame} {meth : Method} {c : Code} {D : hD} {S0 : hS} {z : Int32 × hS} (C : hCx p m c cX10_stepsStand 1 s args RX10 meth (some .boolean) D) (fu : Nat) : ∀ (n : Nat) (S : hS) (a0 : Nat) (H : Heap) (locs : List Loc) (ls : Array Slot), fX10_stepsStand_0 fu n S a0 = some z → h_V D (h_A S0) s S H locs → hl_has ls 1 [(0, .inr (some a0))] → W p l e { frames := 0, cells := 0, slots := 0, locals := 0 } s m args below meth c H locs 0 0 (MQ below (h_Q D (h_A S0) (some (.int z.1)) z.2) args s 0 0 (h_A S0)) (F0 m 0 ls []) := by
  obtain ⟨-, hx, hb, hml, hown, hr, hlk, hK, hts⟩ := id C
  intro n
  induction n with
  | zero =>
    intro S a0 _ _ _ h hV hl
    rw [fX10_stepsStand_0] at h
    cases h
  | succ n ih =>
    intro S a0 _ _ _ h hV hl
    rw [fX10_stepsStand_0] at h
    refine hr_aload_n hx hb dX10_stepsStand_0 rfl (hr_at hl 0 rfl) ?_
    obtain ⟨v1, g2, h3⟩ := hbind h; clear h
    refine h_gI hx hb hown hV g2 (flRX10_125 hts hK) dX10_stepsStand_1 ?_
    refine lv_if_le (tgt := 110) hx hb dX10_stepsStand_4 (by decide) (fun c4 => ?_) (fun c4 => ?_)
    · rw [if_pos c4] at h3
      refine lv_iconst (v := 0) hx hb dX10_stepsStand_110 (by decide) ?_
      exact h_zret hx hb hr hlk hV h3 (Nat.le_of_ble_eq_true rfl) (Nat.le_of_ble_eq_true rfl) dX10_stepsStand_111
    · rw [if_neg c4] at h3
      refine hr_aload_n hx hb dX10_stepsStand_7 rfl (hr_at hl 0 rfl) ?_
      obtain ⟨v5, g6, h7⟩ := hbind h3; clear h3
      refine h_gI hx hb hown hV g6 (flRX10_128 hts hK) dX10_stepsStand_8 ?_
      refine hr_aload_n hx hb dX10_stepsStand_11 rfl (hr_at hl 0 rfl) ?_
      obtain ⟨v8, g9, h10⟩ := hbind h7; clear h7
      refine h_gI hx hb hown hV g9 (flRX10_122 hts hK) dX10_stepsStand_12 ?_
      refine lv_icmp_ge (tgt := 31) hx hb dX10_stepsStand_15 (by decide) (fun c11 => ?_) (fun c11 => ?_)
      · rw [if_pos c11] at h10
        exact kX10_stepsStand_31 C fu (fX10_stepsStand_0 fu n) ih S a0 _ _ _ h10 hV (hl_sub hl [0] rfl)
      · rw [if_neg c11] at h10
        refine hr_aload_n hx hb dX10_stepsStand_18 rfl (hr_at hl 0 rfl) ?_
        obtain ⟨v12, g13, h14⟩ := hbind h10; clear h10
        refine h_gI hx hb hown hV g13 (flRX10_131 hts hK) dX10_stepsStand_19 ?_
        refine hr_aload_n hx hb dX10_stepsStand_22 rfl (hr_at hl 0 rfl) ?_
        obtain ⟨v15, g16, h17⟩ := hbind h14; clear h14
        refine h_gI hx hb hown hV g16 (flRX10_125 hts hK) dX10_stepsStand_23 ?_
        refine lv_icmp_lt (tgt := 31) hx hb dX10_stepsStand_26 (by decide) (fun c18 => ?_) (fun c18 => ?_)
        · rw [if_pos c18] at h17
          exact kX10_stepsStand_31 C fu (fX10_stepsStand_0 fu n) ih S a0 _ _ _ h17 hV (hl_sub hl [0] rfl)
        · rw [if_neg c18] at h17
          refine lv_iconst (v := 1) hx hb dX10_stepsStand_29 (by decide) ?_
          exact h_zret hx hb hr hlk hV h17 (Nat.le_of_ble_eq_true rfl) (Nat.le_of_ble_eq_true rfl) dX10_stepsStand_30
def fX10_stepsStand (fu : Nat) (S : hS) (a0 : Nat) : Option (Int32 × hS) := fX10_stepsStand_0 fu fu S a0
set_option maxHeartbeats 4000000 in
set_option maxRecDepth 100000 in
theorem mX10_stepsStand (l : Launch) (D : hD) (fu : Nat) (S : hS) (a0 : Nat) (z : Int32 × hS) (h : fX10_stepsStand fu S a0 = some z) : hM l D yX10_stepsStand cX10_stepsStand 1 (some .boolean) 0 0 0 0 [va_rf (some a0)] S (some (.int z.1)) z.2 := by
  refine h_body [.inr (some a0)] RX10 (by decide) rfl (Nat.le_of_ble_eq_true rfl) ?_
  intro p e s m args below meth c C hin ls hV hl
  obtain ⟨-, hx, hb, hml, hown, hr, hlk, hK, hts⟩ := id C
  unfold fX10_stepsStand at h
  exact kX10_stepsStand_0 C fu fu S a0 _ _ _ h hV (hl_sub hl [0] rfl)
def fX10_stepsBegin (fu : Nat) (S : hS) (a0 : Nat) (x1 : Int32) : Option (Int32 × hS) := (pV S 9 22 (some a0) (.int x1)).bind fun S1 => (pV S1 9 23 (some a0) (.int x1)).bind fun S4 => (pV S4 9 24 (some a0) (.int x1)).bind fun S7 => if x1 ≤ 0 then ((zz (0 : Int32)).bind (fun v => some (v, S7))) else ((rcv S7 9 (some a0)).bind fun b13 =>
bn2 (fX10_stepsStand fu S7 b13) fun r11 S12 =>
if r11 = 0 then ((zz (0 : Int32)).bind (fun v => some (v, S12))) else ((zz (1 : Int32)).bind (fun v => some (v, S12))))
set_option maxHeartbeats 4000000 in
set_option maxRecDepth 100000 in
theorem mX10_stepsBegin (l : Launch) (D : hD) (fu : Nat) (S : hS) (a0 : Nat) (x1 : Int32) (z : Int32 × hS) (h : fX10_stepsBegin fu S a0 x1 = some z) : hM l D yX10_stepsBegin cX10_stepsBegin 2 (some .boolean) 1 20 0 0 [va_rf (some a0), .int x1] S (some (.int z.1)) z.2 := by
  refine h_body [.inr (some a0), .inl x1] RX10 (by decide) rfl (Nat.le_of_ble_eq_true rfl) ?_
  intro p e s m args below meth c C hin ls hV hl
  obtain ⟨-, hx, hb, hml, hown, hr, hlk, hK, hts⟩ := id C
  unfold fX10_stepsBegin at h
  refine hr_aload_n hx hb dX10_stepsBegin_0 rfl (hr_at hl 0 rfl) ?_
  refine lv_iload_n hx hb dX10_stepsBegin_1 rfl (hi_at hl 1 rfl) ?_
  obtain ⟨S1, g2, h3⟩ := hbind h; clear h
  refine h_put hx hb hown hV g2 (fpRX10_125 hts hK) rfl rfl dX10_stepsBegin_2 (fun H locs hV => ?_)
  refine hr_aload_n hx hb dX10_stepsBegin_5 rfl (hr_at hl 0 rfl) ?_
  refine lv_iload_n hx hb dX10_stepsBegin_6 rfl (hi_at hl 1 rfl) ?_
  obtain ⟨S4, g5, h6⟩ := hbind h3; clear h3
  refine h_put hx hb hown hV g5 (fpRX10_128 hts hK) rfl rfl dX10_stepsBegin_7 (fun H locs hV => ?_)
  refine hr_aload_n hx hb dX10_stepsBegin_10 rfl (hr_at hl 0 rfl) ?_
  refine lv_iload_n hx hb dX10_stepsBegin_11 rfl (hi_at hl 1 rfl) ?_
  obtain ⟨S7, g8, h9⟩ := hbind h6; clear h6
  refine h_put hx hb hown hV g8 (fpRX10_131 hts hK) rfl rfl dX10_stepsBegin_12 (fun H locs hV => ?_)
  refine lv_iload_n hx hb dX10_stepsBegin_15 rfl (hi_at hl 1 rfl) ?_
  refine lv_if_le (tgt := 30) hx hb dX10_stepsBegin_16 (by decide) (fun c10 => ?_) (fun c10 => ?_)
  · rw [if_pos c10] at h9
    refine lv_iconst (v := 0) hx hb dX10_stepsBegin_30 (by decide) ?_
    exact h_zret hx hb hr hlk hV h9 (Nat.le_of_ble_eq_true rfl) (Nat.le_of_ble_eq_true rfl) dX10_stepsBegin_31
  · rw [if_neg c10] at h9
    refine hr_aload_n hx hb dX10_stepsBegin_19 rfl (hr_at hl 0 rfl) ?_
    obtain ⟨b13, g14, h15⟩ := hbind h9; clear h9
    obtain ⟨_, _, e16, q16⟩ := rcv_inv g14
    obtain ⟨r11, S12, g17, h18⟩ := hbn2 h15; clear h15
    refine h_callV (n := 0) (As := []) (rest := []) (st1 := [.int r11]) (fr := 0) (lo := 0) (mc := 0) (ms := 0) C.1 hK hV q16 rfl rfl wd867 wd864 wd866 wd55 wd83 ⟨by decide, by decide, by decide⟩ ⟨(Nat.le_of_ble_eq_true rfl), (Nat.le_of_ble_eq_true rfl)⟩ rfl hl.1 (hW_ok [] (Nat.le_of_ble_eq_true rfl)) dX10_stepsBegin_20 ⟨(Nat.le_of_ble_eq_true rfl), (Nat.le_of_ble_eq_true rfl)⟩ rfl (by rw [e16]; rfl) (mX10_stepsStand l D fu S7 b13 _ g17) (fun H locs hV => ?_)
    refine lv_if_eq (tgt := 30) hx hb dX10_stepsBegin_23 (by decide) (fun c19 => ?_) (fun c19 => ?_)
    · rw [if_pos c19] at h18
      refine lv_iconst (v := 0) hx hb dX10_stepsBegin_30 (by decide) ?_
      exact h_zret hx hb hr hlk hV h18 (Nat.le_of_ble_eq_true rfl) (Nat.le_of_ble_eq_true rfl) dX10_stepsBegin_31
    · rw [if_neg c19] at h18
      refine lv_iconst (v := 1) hx hb dX10_stepsBegin_26 (by decide) ?_
      refine lv_goto (tgt := 31) hx hb dX10_stepsBegin_27 (by decide) ?_
      exact h_zret hx hb hr hlk hV h18 (Nat.le_of_ble_eq_true rfl) (Nat.le_of_ble_eq_true rfl) dX10_stepsBegin_31
def fX10_change (fu : Nat) (S : hS) (a0 : Nat) (x1 : Int32) (x2 : Int32) : Option (Unit × hS) := (gR S 9 3 (some a0)).bind fun v1 => (gR S 9 9 (some a0)).bind fun v4 => (gI S 9 20 (some a0)).bind fun v7 => (aI S 10 v4 v7).bind fun v10 => (aI S 10 v1 (v10 + x1)).bind fun v13 => (gR S 9 3 (some a0)).bind fun v16 => (gR S 9 9 (some a0)).bind fun v19 => (gI S 9 20 (some a0)).bind fun v22 => (aI S 10 v19 v22).bind fun v25 => (gR S 9 3 (some a0)).bind fun v28 => (gR S 9 9 (some a0)).bind fun v31 => (gI S 9 20 (some a0)).bind fun v34 => (aI S 10 v31 v34).bind fun v37 => (aI S 10 v28 (v37 + x2)).bind fun v40 => (sV S 10 v16 (v25 + x1) (.int v40)).bind fun S43 => (gR S43 9 3 (some a0)).bind fun v46 => (gR S43 9 9 (some a0)).bind fun v49 => (gI S43 9 20 (some a0)).bind fun v52 => (aI S43 10 v49 v52).bind fun v55 => (sV S43 10 v46 (v55 + x2) (.int v13)).bind fun S58 => some ((), S58)
set_option maxHeartbeats 4000000 in
set_option maxRecDepth 100000 in
theorem mX10_change (l : Launch) (D : hD) (fu : Nat) (S : hS) (a0 : Nat) (x1 : Int32) (x2 : Int32) (z : Unit × hS) (h : fX10_change fu S a0 x1 x2 = some z) : hM l D yX10_change cX10_change 4 none 0 0 0 0 [va_rf (some a0), .int x1, .int x2] S none z.2 := by
  refine h_body [.inr (some a0), .inl x1, .inl x2] RX10 (by decide) rfl (Nat.le_of_ble_eq_true rfl) ?_
  intro p e s m args below meth c C hin ls hV hl
  obtain ⟨-, hx, hb, hml, hown, hr, hlk, hK, hts⟩ := id C
  unfold fX10_change at h
  refine hr_aload_n hx hb dX10_change_0 rfl (hr_at hl 0 rfl) ?_
  obtain ⟨v1, g2, h3⟩ := hbind h; clear h
  refine h_gR hx hb hown hV g2 (flRX10_69 hts hK) dX10_change_1 ?_
  refine hr_aload_n hx hb dX10_change_4 rfl (hr_at hl 0 rfl) ?_
  obtain ⟨v4, g5, h6⟩ := hbind h3; clear h3
  refine h_gR hx hb hown hV g5 (flRX10_25 hts hK) dX10_change_5 ?_
  refine hr_aload_n hx hb dX10_change_8 rfl (hr_at hl 0 rfl) ?_
  obtain ⟨v7, g8, h9⟩ := hbind h6; clear h6
  refine h_gI hx hb hown hV g8 (flRX10_119 hts hK) dX10_change_9 ?_
  obtain ⟨v10, g11, h12⟩ := hbind h9; clear h9
  refine h_iald hx hb hK hV g11 dX10_change_12 ?_
  refine lv_iload_n hx hb dX10_change_13 rfl (hi_at hl 1 rfl) ?_
  refine lv_iadd hx hb dX10_change_14 ?_
  obtain ⟨v13, g14, h15⟩ := hbind h12; clear h12
  refine h_iald hx hb hK hV g14 dX10_change_15 ?_
  refine h_istore_n (tl' := [(3, .inl v13), (0, .inr (some a0)), (1, .inl x1), (2, .inl x2)]) hx hb dX10_change_16 rfl hl (by decide) rfl (fun ls hl => ?_)
  refine hr_aload_n hx hb dX10_change_17 rfl (hr_at hl 1 rfl) ?_
  obtain ⟨v16, g17, h18⟩ := hbind h15; clear h15
  refine h_gR hx hb hown hV g17 (flRX10_69 hts hK) dX10_change_18 ?_
  refine hr_aload_n hx hb dX10_change_21 rfl (hr_at hl 1 rfl) ?_
  obtain ⟨v19, g20, h21⟩ := hbind h18; clear h18
  refine h_gR hx hb hown hV g20 (flRX10_25 hts hK) dX10_change_22 ?_
  refine hr_aload_n hx hb dX10_change_25 rfl (hr_at hl 1 rfl) ?_
  obtain ⟨v22, g23, h24⟩ := hbind h21; clear h21
  refine h_gI hx hb hown hV g23 (flRX10_119 hts hK) dX10_change_26 ?_
  obtain ⟨v25, g26, h27⟩ := hbind h24; clear h24
  refine h_iald hx hb hK hV g26 dX10_change_29 ?_
  refine lv_iload_n hx hb dX10_change_30 rfl (hi_at hl 2 rfl) ?_
  refine lv_iadd hx hb dX10_change_31 ?_
  refine hr_aload_n hx hb dX10_change_32 rfl (hr_at hl 1 rfl) ?_
  obtain ⟨v28, g29, h30⟩ := hbind h27; clear h27
  refine h_gR hx hb hown hV g29 (flRX10_69 hts hK) dX10_change_33 ?_
  refine hr_aload_n hx hb dX10_change_36 rfl (hr_at hl 1 rfl) ?_
  obtain ⟨v31, g32, h33⟩ := hbind h30; clear h30
  refine h_gR hx hb hown hV g32 (flRX10_25 hts hK) dX10_change_37 ?_
  refine hr_aload_n hx hb dX10_change_40 rfl (hr_at hl 1 rfl) ?_
  obtain ⟨v34, g35, h36⟩ := hbind h33; clear h33
  refine h_gI hx hb hown hV g35 (flRX10_119 hts hK) dX10_change_41 ?_
  obtain ⟨v37, g38, h39⟩ := hbind h36; clear h36
  refine h_iald hx hb hK hV g38 dX10_change_44 ?_
  refine lv_iload_n hx hb dX10_change_45 rfl (hi_at hl 3 rfl) ?_
  refine lv_iadd hx hb dX10_change_46 ?_
  obtain ⟨v40, g41, h42⟩ := hbind h39; clear h39
  refine h_iald hx hb hK hV g41 dX10_change_47 ?_
  obtain ⟨S43, g44, h45⟩ := hbind h42; clear h42
  refine h_iast hx hb hK hV g44 dX10_change_48 (fun H locs hV => ?_)
  refine hr_aload_n hx hb dX10_change_49 rfl (hr_at hl 1 rfl) ?_
  obtain ⟨v46, g47, h48⟩ := hbind h45; clear h45
  refine h_gR hx hb hown hV g47 (flRX10_69 hts hK) dX10_change_50 ?_
  refine hr_aload_n hx hb dX10_change_53 rfl (hr_at hl 1 rfl) ?_
  obtain ⟨v49, g50, h51⟩ := hbind h48; clear h48
  refine h_gR hx hb hown hV g50 (flRX10_25 hts hK) dX10_change_54 ?_
  refine hr_aload_n hx hb dX10_change_57 rfl (hr_at hl 1 rfl) ?_
  obtain ⟨v52, g53, h54⟩ := hbind h51; clear h51
  refine h_gI hx hb hown hV g53 (flRX10_119 hts hK) dX10_change_58 ?_
  obtain ⟨v55, g56, h57⟩ := hbind h54; clear h54
  refine h_iald hx hb hK hV g56 dX10_change_61 ?_
  refine lv_iload_n hx hb dX10_change_62 rfl (hi_at hl 3 rfl) ?_
  refine lv_iadd hx hb dX10_change_63 ?_
  refine lv_iload_n hx hb dX10_change_64 rfl (hi_at hl 0 rfl) ?_
  obtain ⟨S58, g59, h60⟩ := hbind h57; clear h57
  refine h_iast hx hb hK hV g59 dX10_change_65 (fun H locs hV => ?_)
  exact h_vret hx hb hr hlk hV h60 (Nat.le_of_ble_eq_true rfl) (Nat.le_of_ble_eq_true rfl) dX10_change_66
