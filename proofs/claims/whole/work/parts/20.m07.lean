def fX10_heapStands_31 (fu : Nat) (S : hS) (a0 : Nat) (t0 : Option Nat) (t1 : Int32) : Option (Int32 × hS) := (pV S 9 25 t0 (.int t1)).bind fun S1 => (gI S1 9 24 (some a0)).bind fun v4 => (gI S1 9 23 (some a0)).bind fun v7 => if v7 ≤ v4 then ((zz (0 : Int32)).bind (fun v => some (v, S1))) else ((zz (1 : Int32)).bind (fun v => some (v, S1)))
set_option maxHeartbeats 4000000 in
set_option maxRecDepth 100000 in
theorem kX10_heapStands_31 {p : Program} {l : Launch} {e : Env} {s : State} {m : MethodId} {args : Array Value} {below : List Frame} {meth : Method} {c : Code} {D : hD} {S0 : hS} {z : Int32 × hS} (C : hCx p m c cX10_heapStands 1 s args RX10 meth (some .boolean) D) (fu : Nat) : ∀ (S : hS) (a0 : Nat) (t0 : Option Nat) (t1 : Int32) (H : Heap) (locs : List Loc) (ls : Array Slot), fX10_heapStands_31 fu S a0 t0 t1 = some z → h_V D (h_A S0) s S H locs → hl_has ls 1 [(0, .inr (some a0))] → W p l e { frames := 0, cells := 0, slots := 0, locals := 0 } s m args below meth c H locs 0 0 (MQ below (h_Q D (h_A S0) (some (.int z.1)) z.2) args s 0 0 (h_A S0)) (F0 m 31 ls [.int t1, va_rf t0]) := by
  obtain ⟨-, hx, hb, hml, hown, hr, hlk, hK, hts⟩ := id C
  intro S a0 t0 t1 _ _ _ h hV hl
  unfold fX10_heapStands_31 at h
  obtain ⟨S1, g2, h3⟩ := hbind h; clear h
  refine h_put hx hb hown hV g2 (fpRX10_134 hts hK) rfl rfl dX10_heapStands_31 (fun H locs hV => ?_)
  refine hr_aload_n hx hb dX10_heapStands_34 rfl (hr_at hl 0 rfl) ?_
  obtain ⟨v4, g5, h6⟩ := hbind h3; clear h3
  refine h_gI hx hb hown hV g5 (flRX10_131 hts hK) dX10_heapStands_35 ?_
  refine hr_aload_n hx hb dX10_heapStands_38 rfl (hr_at hl 0 rfl) ?_
  obtain ⟨v7, g8, h9⟩ := hbind h6; clear h6
  refine h_gI hx hb hown hV g8 (flRX10_128 hts hK) dX10_heapStands_39 ?_
  refine lv_icmp_ge (tgt := 49) hx hb dX10_heapStands_42 (by decide) (fun c10 => ?_) (fun c10 => ?_)
  · rw [if_pos c10] at h9
    refine lv_iconst (v := 0) hx hb dX10_heapStands_49 (by decide) ?_
    exact h_zret hx hb hr hlk hV h9 (Nat.le_of_ble_eq_true rfl) (Nat.le_of_ble_eq_true rfl) dX10_heapStands_50
  · rw [if_neg c10] at h9
    refine lv_iconst (v := 1) hx hb dX10_heapStands_45 (by decide) ?_
    refine lv_goto (tgt := 50) hx hb dX10_heapStands_46 (by decide) ?_
    exact h_zret hx hb hr hlk hV h9 (Nat.le_of_ble_eq_true rfl) (Nat.le_of_ble_eq_true rfl) dX10_heapStands_50
def fX10_heapStands (fu : Nat) (S : hS) (a0 : Nat) : Option (Int32 × hS) := (gI S 9 22 (some a0)).bind fun v1 => (pV S 9 24 (some a0) (.int (((2 : Int32) * v1) + (1 : Int32)))).bind fun S4 => (gI S4 9 24 (some a0)).bind fun v7 => (gI S4 9 23 (some a0)).bind fun v10 => if v10 ≤ (v7 + (1 : Int32)) then (fX10_heapStands_31 fu S4 a0 (some a0) (1 : Int32)) else (fX10_heapStands_31 fu S4 a0 (some a0) (0 : Int32))
set_option maxHeartbeats 4000000 in
set_option maxRecDepth 100000 in
theorem mX10_heapStands (l : Launch) (D : hD) (fu : Nat) (S : hS) (a0 : Nat) (z : Int32 × hS) (h : fX10_heapStands fu S a0 = some z) : hM l D yX10_heapStands cX10_heapStands 1 (some .boolean) 0 0 0 0 [va_rf (some a0)] S (some (.int z.1)) z.2 := by
  refine h_body [.inr (some a0)] RX10 (by decide) rfl (Nat.le_of_ble_eq_true rfl) ?_
  intro p e s m args below meth c C hin ls hV hl
  obtain ⟨-, hx, hb, hml, hown, hr, hlk, hK, hts⟩ := id C
  unfold fX10_heapStands at h
  refine hr_aload_n hx hb dX10_heapStands_0 rfl (hr_at hl 0 rfl) ?_
  refine lv_iconst (v := 2) hx hb dX10_heapStands_1 (by decide) ?_
  refine hr_aload_n hx hb dX10_heapStands_2 rfl (hr_at hl 0 rfl) ?_
  obtain ⟨v1, g2, h3⟩ := hbind h; clear h
  refine h_gI hx hb hown hV g2 (flRX10_125 hts hK) dX10_heapStands_3 ?_
  refine lv_imul hx hb dX10_heapStands_6 ?_
  refine lv_iconst (v := 1) hx hb dX10_heapStands_7 (by decide) ?_
  refine lv_iadd hx hb dX10_heapStands_8 ?_
  obtain ⟨S4, g5, h6⟩ := hbind h3; clear h3
  refine h_put hx hb hown hV g5 (fpRX10_131 hts hK) rfl rfl dX10_heapStands_9 (fun H locs hV => ?_)
  refine hr_aload_n hx hb dX10_heapStands_12 rfl (hr_at hl 0 rfl) ?_
  refine hr_aload_n hx hb dX10_heapStands_13 rfl (hr_at hl 0 rfl) ?_
  obtain ⟨v7, g8, h9⟩ := hbind h6; clear h6
  refine h_gI hx hb hown hV g8 (flRX10_131 hts hK) dX10_heapStands_14 ?_
  refine lv_iconst (v := 1) hx hb dX10_heapStands_17 (by decide) ?_
  refine lv_iadd hx hb dX10_heapStands_18 ?_
  refine hr_aload_n hx hb dX10_heapStands_19 rfl (hr_at hl 0 rfl) ?_
  obtain ⟨v10, g11, h12⟩ := hbind h9; clear h9
  refine h_gI hx hb hown hV g11 (flRX10_128 hts hK) dX10_heapStands_20 ?_
  refine lv_icmp_ge (tgt := 30) hx hb dX10_heapStands_23 (by decide) (fun c13 => ?_) (fun c13 => ?_)
  · rw [if_pos c13] at h12
    refine lv_iconst (v := 1) hx hb dX10_heapStands_30 (by decide) ?_
    exact kX10_heapStands_31 C fu S4 a0 (some a0) (1 : Int32) _ _ _ h12 hV (hl_sub hl [0] rfl)
  · rw [if_neg c13] at h12
    refine lv_iconst (v := 0) hx hb dX10_heapStands_26 (by decide) ?_
    refine lv_goto (tgt := 31) hx hb dX10_heapStands_27 (by decide) ?_
    exact kX10_heapStands_31 C fu S4 a0 (some a0) (0 : Int32) _ _ _ h12 hV (hl_sub hl [0] rfl)
def fX10_heapNext_78 (fu : Nat) (k0 : hS → Nat → Option (Int32 × hS)) (S : hS) (a0 : Nat) : Option (Int32 × hS) := (rcv S 9 (some a0)).bind fun b3 => bn2 (fX10_heapStands fu S b3) fun r1 S2 => if r1 = 0 then (k0 S2 a0) else ((zz (1 : Int32)).bind (fun v => some (v, S2)))
set_option maxHeartbeats 4000000 in
set_option maxRecDepth 100000 in
theorem kX10_heapNext_78 {p : Program} {l : Launch} {e : Env} {s : State} {m : MethodId} {args : Array Value} {below : List Frame} {meth : Method} {c : Code} {D : hD} {S0 : hS} {z : Int32 × hS} (C : hCx p m c cX10_heapNext 1 s args RX10 meth (some .boolean) D) (fu : Nat) (k0 : hS → Nat → Option (Int32 × hS)) (hk0 : ∀ (S : hS) (a0 : Nat) (H : Heap) (locs : List Loc) (ls : Array Slot), k0 S a0 = some z → h_V D (h_A S0) s S H locs → hl_has ls 1 [(0, .inr (some a0))] → W p l e { frames := 1, cells := 0, slots := 0, locals := 23 } s m args below meth c H locs 0 0 (MQ below (h_Q D (h_A S0) (some (.int z.1)) z.2) args s 0 0 (h_A S0)) (F0 m 0 ls [])) : ∀ (S : hS) (a0 : Nat) (H : Heap) (locs : List Loc) (ls : Array Slot), fX10_heapNext_78 fu k0 S a0 = some z → h_V D (h_A S0) s S H locs → hl_has ls 1 [(0, .inr (some a0))] → W p l e { frames := 1, cells := 0, slots := 0, locals := 23 } s m args below meth c H locs 0 0 (MQ below (h_Q D (h_A S0) (some (.int z.1)) z.2) args s 0 0 (h_A S0)) (F0 m 78 ls []) := by
  obtain ⟨-, hx, hb, hml, hown, hr, hlk, hK, hts⟩ := id C
  intro S a0 _ _ _ h hV hl
  unfold fX10_heapNext_78 at h
  refine hr_aload_n hx hb dX10_heapNext_78 rfl (hr_at hl 0 rfl) ?_
  obtain ⟨b3, g4, h5⟩ := hbind h; clear h
  obtain ⟨_, _, e6, q6⟩ := rcv_inv g4
  obtain ⟨r1, S2, g7, h8⟩ := hbn2 h5; clear h5
  refine h_callV (n := 0) (As := []) (rest := []) (st1 := [.int r1]) (fr := 0) (lo := 0) (mc := 0) (ms := 0) C.1 hK hV q6 rfl rfl wd883 wd880 wd882 wd59 wd83 ⟨by decide, by decide, by decide⟩ ⟨(Nat.le_of_ble_eq_true rfl), (Nat.le_of_ble_eq_true rfl)⟩ rfl hl.1 (hW_ok [] (Nat.le_of_ble_eq_true rfl)) dX10_heapNext_79 ⟨(Nat.le_of_ble_eq_true rfl), (Nat.le_of_ble_eq_true rfl)⟩ rfl (by rw [e6]; rfl) (mX10_heapStands l D fu S b3 _ g7) (fun H locs hV => ?_)
  refine lv_if_eq (tgt := 0) hx hb dX10_heapNext_82 (by decide) (fun c9 => ?_) (fun c9 => ?_)
  · rw [if_pos c9] at h8
    exact hk0 S2 a0 _ _ _ h8 hV (hl_sub hl [0] rfl)
  · rw [if_neg c9] at h8
    refine lv_iconst (v := 1) hx hb dX10_heapNext_85 (by decide) ?_
    exact h_zret hx hb hr hlk hV h8 (Nat.le_of_ble_eq_true rfl) (Nat.le_of_ble_eq_true rfl) dX10_heapNext_86
def fX10_heapNext_0 (fu : Nat) : Nat → hS → Nat → Option (Int32 × hS)
  | 0, _, _ => none
  | n + 1, S, a0 => (gI S 9 26 (some a0)).bind fun v1 => if v1 ≤ 0 then ((gI S 9 27 (some a0)).bind fun v5 =>
(pV S 9 27 (some a0) (.int (v5 - (1 : Int32)))).bind fun S8 =>
(gI S8 9 27 (some a0)).bind fun v11 =>
if (1 : Int32) ≤ v11 then ((gI S8 9 27 (some a0)).bind fun v15 =>
(rcv S8 9 (some a0)).bind fun b20 =>
bn2 (fX10_change fu S8 b20 (0 : Int32) v15) fun _ S19 =>
(pV S19 9 22 (some a0) (.int (0 : Int32))).bind fun S26 =>
(gI S26 9 27 (some a0)).bind fun v29 =>
(pV S26 9 23 (some a0) (.int v29)).bind fun S32 =>
fX10_heapNext_78 fu (fX10_heapNext_0 fu n) S32 a0) else ((zz (0 : Int32)).bind (fun v => some (v, S8)))) else ((gI S 9 26 (some a0)).bind fun v35 =>
(pV S 9 26 (some a0) (.int (v35 - (1 : Int32)))).bind fun S38 =>
(gI S38 9 26 (some a0)).bind fun v41 =>
(pV S38 9 22 (some a0) (.int v41)).bind fun S44 =>
(gI S44 9 21 (some a0)).bind fun v47 =>
(pV S44 9 23 (some a0) (.int v47)).bind fun S50 =>
fX10_heapNext_78 fu (fX10_heapNext_0 fu n) S50 a0)
set_option maxHeartbeats 4000000 in
set_option maxRecDepth 100000 in
theorem kX10_heapNext_0 {p : Program} {l : Launch} {e : Env} {s : State} {m : MethodId} {args : Array Value} {below : List Frame} {meth : Method} {c : Code} {D : hD} {S0 : hS} {z : Int32 × hS} (C : hCx p m c cX10_heapNext 1 s args RX10 meth (some .boolean) D) (fu : Nat) : ∀ (n : Nat) (S : hS) (a0 : Nat) (H : Heap) (locs : List Loc) (ls : Array Slot), fX10_heapNext_0 fu n S a0 = some z → h_V D (h_A S0) s S H locs → hl_has ls 1 [(0, .inr (some a0))] → W p l e { frames := 1, cells := 0, slots := 0, locals := 23 } s m args below meth c H locs 0 0 (MQ below (h_Q D (h_A S0) (some (.int z.1)) z.2) args s 0 0 (h_A S0)) (F0 m 0 ls []) := by
  obtain ⟨-, hx, hb, hml, hown, hr, hlk, hK, hts⟩ := id C
  intro n
  induction n with
  | zero =>
    intro S a0 _ _ _ h hV hl
    rw [fX10_heapNext_0] at h
    cases h
  | succ n ih =>
    intro S a0 _ _ _ h hV hl
    rw [fX10_heapNext_0] at h
    refine hr_aload_n hx hb dX10_heapNext_0 rfl (hr_at hl 0 rfl) ?_
    obtain ⟨v1, g2, h3⟩ := hbind h; clear h
    refine h_gI hx hb hown hV g2 (flRX10_137 hts hK) dX10_heapNext_1 ?_
    refine lv_if_le (tgt := 36) hx hb dX10_heapNext_4 (by decide) (fun c4 => ?_) (fun c4 => ?_)
    · rw [if_pos c4] at h3
      refine hr_aload_n hx hb dX10_heapNext_36 rfl (hr_at hl 0 rfl) ?_
      refine hr_dup hx hb dX10_heapNext_37 ?_
      obtain ⟨v5, g6, h7⟩ := hbind h3; clear h3
      refine h_gI hx hb hown hV g6 (flRX10_140 hts hK) dX10_heapNext_38 ?_
      refine lv_iconst (v := 1) hx hb dX10_heapNext_41 (by decide) ?_
      refine lv_isub hx hb dX10_heapNext_42 ?_
      obtain ⟨S8, g9, h10⟩ := hbind h7; clear h7
      refine h_put hx hb hown hV g9 (fpRX10_140 hts hK) rfl rfl dX10_heapNext_43 (fun H locs hV => ?_)
      refine hr_aload_n hx hb dX10_heapNext_46 rfl (hr_at hl 0 rfl) ?_
      obtain ⟨v11, g12, h13⟩ := hbind h10; clear h10
      refine h_gI hx hb hown hV g12 (flRX10_140 hts hK) dX10_heapNext_47 ?_
      refine lv_iconst (v := 1) hx hb dX10_heapNext_50 (by decide) ?_
      refine lv_icmp_ge (tgt := 56) hx hb dX10_heapNext_51 (by decide) (fun c14 => ?_) (fun c14 => ?_)
      · rw [if_pos c14] at h13
        refine hr_aload_n hx hb dX10_heapNext_56 rfl (hr_at hl 0 rfl) ?_
        refine lv_iconst (v := 0) hx hb dX10_heapNext_57 (by decide) ?_
        refine hr_aload_n hx hb dX10_heapNext_58 rfl (hr_at hl 0 rfl) ?_
        obtain ⟨v15, g16, h17⟩ := hbind h13; clear h13
        refine h_gI hx hb hown hV g16 (flRX10_140 hts hK) dX10_heapNext_59 ?_
        obtain ⟨b20, g21, h22⟩ := hbind h17; clear h17
        obtain ⟨_, _, e23, q23⟩ := rcv_inv g21
        obtain ⟨r18, S19, g24, h25⟩ := hbn2 h22; clear h22
        refine h_callV (n := 2) (As := [.int (0 : Int32), .int v15]) (rest := []) (st1 := []) (fr := 0) (lo := 0) (mc := 0) (ms := 0) C.1 hK hV q23 rfl rfl wd879 wd876 wd878 wd58 wd83 ⟨by decide, by decide, by decide⟩ ⟨(Nat.le_of_ble_eq_true rfl), (Nat.le_of_ble_eq_true rfl)⟩ rfl hl.1 (hW_ok [] (Nat.le_of_ble_eq_true rfl)) dX10_heapNext_62 ⟨(Nat.le_of_ble_eq_true rfl), (Nat.le_of_ble_eq_true rfl)⟩ rfl (by rw [e23]; rfl) (mX10_change l D fu S8 b20 (0 : Int32) v15 _ g24) (fun H locs hV => ?_)
        refine hr_aload_n hx hb dX10_heapNext_65 rfl (hr_at hl 0 rfl) ?_
        refine lv_iconst (v := 0) hx hb dX10_heapNext_66 (by decide) ?_
        obtain ⟨S26, g27, h28⟩ := hbind h25; clear h25
        refine h_put hx hb hown hV g27 (fpRX10_125 hts hK) rfl rfl dX10_heapNext_67 (fun H locs hV => ?_)
        refine hr_aload_n hx hb dX10_heapNext_70 rfl (hr_at hl 0 rfl) ?_
        refine hr_aload_n hx hb dX10_heapNext_71 rfl (hr_at hl 0 rfl) ?_
        obtain ⟨v29, g30, h31⟩ := hbind h28; clear h28
        refine h_gI hx hb hown hV g30 (flRX10_140 hts hK) dX10_heapNext_72 ?_
        obtain ⟨S32, g33, h34⟩ := hbind h31; clear h31
        refine h_put hx hb hown hV g33 (fpRX10_128 hts hK) rfl rfl dX10_heapNext_75 (fun H locs hV => ?_)
        exact kX10_heapNext_78 C fu (fX10_heapNext_0 fu n) ih S32 a0 _ _ _ h34 hV (hl_sub hl [0] rfl)
      · rw [if_neg c14] at h13
        refine lv_iconst (v := 0) hx hb dX10_heapNext_54 (by decide) ?_
        exact h_zret hx hb hr hlk hV h13 (Nat.le_of_ble_eq_true rfl) (Nat.le_of_ble_eq_true rfl) dX10_heapNext_55
    · rw [if_neg c4] at h3
      refine hr_aload_n hx hb dX10_heapNext_7 rfl (hr_at hl 0 rfl) ?_
      refine hr_dup hx hb dX10_heapNext_8 ?_
      obtain ⟨v35, g36, h37⟩ := hbind h3; clear h3
      refine h_gI hx hb hown hV g36 (flRX10_137 hts hK) dX10_heapNext_9 ?_
      refine lv_iconst (v := 1) hx hb dX10_heapNext_12 (by decide) ?_
      refine lv_isub hx hb dX10_heapNext_13 ?_
      obtain ⟨S38, g39, h40⟩ := hbind h37; clear h37
      refine h_put hx hb hown hV g39 (fpRX10_137 hts hK) rfl rfl dX10_heapNext_14 (fun H locs hV => ?_)
      refine hr_aload_n hx hb dX10_heapNext_17 rfl (hr_at hl 0 rfl) ?_
      refine hr_aload_n hx hb dX10_heapNext_18 rfl (hr_at hl 0 rfl) ?_
      obtain ⟨v41, g42, h43⟩ := hbind h40; clear h40
      refine h_gI hx hb hown hV g42 (flRX10_137 hts hK) dX10_heapNext_19 ?_
      obtain ⟨S44, g45, h46⟩ := hbind h43; clear h43
      refine h_put hx hb hown hV g45 (fpRX10_125 hts hK) rfl rfl dX10_heapNext_22 (fun H locs hV => ?_)
      refine hr_aload_n hx hb dX10_heapNext_25 rfl (hr_at hl 0 rfl) ?_
      refine hr_aload_n hx hb dX10_heapNext_26 rfl (hr_at hl 0 rfl) ?_
      obtain ⟨v47, g48, h49⟩ := hbind h46; clear h46
      refine h_gI hx hb hown hV g48 (flRX10_122 hts hK) dX10_heapNext_27 ?_
      obtain ⟨S50, g51, h52⟩ := hbind h49; clear h49
      refine h_put hx hb hown hV g51 (fpRX10_128 hts hK) rfl rfl dX10_heapNext_30 (fun H locs hV => ?_)
      refine lv_goto (tgt := 78) hx hb dX10_heapNext_33 (by decide) ?_
      exact kX10_heapNext_78 C fu (fX10_heapNext_0 fu n) ih S50 a0 _ _ _ h52 hV (hl_sub hl [0] rfl)
def fX10_heapNext (fu : Nat) (S : hS) (a0 : Nat) : Option (Int32 × hS) := fX10_heapNext_0 fu fu S a0
set_option maxHeartbeats 4000000 in
set_option maxRecDepth 100000 in
theorem mX10_heapNext (l : Launch) (D : hD) (fu : Nat) (S : hS) (a0 : Nat) (z : Int32 × hS) (h : fX10_heapNext fu S a0 = some z) : hM l D yX10_heapNext cX10_heapNext 1 (some .boolean) 1 23 0 0 [va_rf (some a0)] S (some (.int z.1)) z.2 := by
  refine h_body [.inr (some a0)] RX10 (by decide) rfl (Nat.le_of_ble_eq_true rfl) ?_
  intro p e s m args below meth c C hin ls hV hl
  obtain ⟨-, hx, hb, hml, hown, hr, hlk, hK, hts⟩ := id C
  unfold fX10_heapNext at h
  exact kX10_heapNext_0 C fu fu S a0 _ _ _ h hV (hl_sub hl [0] rfl)
def fX10_heapBegins (fu : Nat) (S : hS) (a0 : Nat) : Option (Int32 × hS) := (gI S 9 21 (some a0)).bind fun v1 => (pV S 9 26 (some a0) (.int (v1 / (2 : Int32)))).bind fun S4 => (gI S4 9 21 (some a0)).bind fun v7 => (pV S4 9 27 (some a0) (.int v7)).bind fun S10 => (rcv S10 9 (some a0)).bind fun b15 => bn2 (fX10_heapNext fu S10 b15) fun r13 S14 => (zz r13).bind (fun v => some (v, S14))
set_option maxHeartbeats 4000000 in
set_option maxRecDepth 100000 in
theorem mX10_heapBegins (l : Launch) (D : hD) (fu : Nat) (S : hS) (a0 : Nat) (z : Int32 × hS) (h : fX10_heapBegins fu S a0 = some z) : hM l D yX10_heapBegins cX10_heapBegins 1 (some .boolean) 2 43 0 0 [va_rf (some a0)] S (some (.int z.1)) z.2 := by
  refine h_body [.inr (some a0)] RX10 (by decide) rfl (Nat.le_of_ble_eq_true rfl) ?_
  intro p e s m args below meth c C hin ls hV hl
  obtain ⟨-, hx, hb, hml, hown, hr, hlk, hK, hts⟩ := id C
  unfold fX10_heapBegins at h
  refine hr_aload_n hx hb dX10_heapBegins_0 rfl (hr_at hl 0 rfl) ?_
  refine hr_aload_n hx hb dX10_heapBegins_1 rfl (hr_at hl 0 rfl) ?_
  obtain ⟨v1, g2, h3⟩ := hbind h; clear h
  refine h_gI hx hb hown hV g2 (flRX10_122 hts hK) dX10_heapBegins_2 ?_
  refine lv_iconst (v := 2) hx hb dX10_heapBegins_5 (by decide) ?_
  refine lv_idiv hx hb dX10_heapBegins_6 (by decide) ?_
  obtain ⟨S4, g5, h6⟩ := hbind h3; clear h3
  refine h_put hx hb hown hV g5 (fpRX10_137 hts hK) rfl rfl dX10_heapBegins_7 (fun H locs hV => ?_)
  refine hr_aload_n hx hb dX10_heapBegins_10 rfl (hr_at hl 0 rfl) ?_
  refine hr_aload_n hx hb dX10_heapBegins_11 rfl (hr_at hl 0 rfl) ?_
  obtain ⟨v7, g8, h9⟩ := hbind h6; clear h6
  refine h_gI hx hb hown hV g8 (flRX10_122 hts hK) dX10_heapBegins_12 ?_
  obtain ⟨S10, g11, h12⟩ := hbind h9; clear h9
  refine h_put hx hb hown hV g11 (fpRX10_140 hts hK) rfl rfl dX10_heapBegins_15 (fun H locs hV => ?_)
  refine hr_aload_n hx hb dX10_heapBegins_18 rfl (hr_at hl 0 rfl) ?_
  obtain ⟨b15, g16, h17⟩ := hbind h12; clear h12
  obtain ⟨_, _, e18, q18⟩ := rcv_inv g16
  obtain ⟨r13, S14, g19, h20⟩ := hbn2 h17; clear h17
  refine h_callV (n := 0) (As := []) (rest := []) (st1 := [.int r13]) (fr := 1) (lo := 23) (mc := 0) (ms := 0) C.1 hK hV q18 rfl rfl wd875 wd872 wd874 wd57 wd83 ⟨by decide, by decide, by decide⟩ ⟨(Nat.le_of_ble_eq_true rfl), (Nat.le_of_ble_eq_true rfl)⟩ rfl hl.1 (hW_ok [] (Nat.le_of_ble_eq_true rfl)) dX10_heapBegins_19 ⟨(Nat.le_of_ble_eq_true rfl), (Nat.le_of_ble_eq_true rfl)⟩ rfl (by rw [e18]; rfl) (mX10_heapNext l D fu S10 b15 _ g19) (fun H locs hV => ?_)
  exact h_zret hx hb hr hlk hV h20 (Nat.le_of_ble_eq_true rfl) (Nat.le_of_ble_eq_true rfl) dX10_heapBegins_22
def fX10_rows (fu : Nat) (S : hS) (a0 : Nat) (x1 : Int32) : Option (Unit × hS) := (pV S 9 22 (some a0) (.int x1)).bind fun S1 => (pV S1 9 23 (some a0) (.int x1)).bind fun S4 => (gI S4 9 31 (some a0)).bind fun v7 => (gI S4 9 21 (some a0)).bind fun v10 => (pV S4 9 25 (some a0) (.int (imn (x1 + v7) v10))).bind fun S13 => (gI S13 9 25 (some a0)).bind fun v16 => (pV S13 9 24 (some a0) (.int v16)).bind fun S19 => (gI S19 9 31 (some a0)).bind fun v22 => (gI S19 9 21 (some a0)).bind fun v25 => (pV S19 9 26 (some a0) (.int (imn (x1 + ((2 : Int32) * v22)) v25))).bind fun S28 => (pV S28 9 27 (some a0) (.int x1)).bind fun S31 => some ((), S31)
set_option maxHeartbeats 4000000 in
set_option maxRecDepth 100000 in
theorem mX10_rows (l : Launch) (D : hD) (fu : Nat) (S : hS) (a0 : Nat) (x1 : Int32) (z : Unit × hS) (h : fX10_rows fu S a0 x1 = some z) : hM l D yX10_rows cX10_rows 2 none 1 14 0 0 [va_rf (some a0), .int x1] S none z.2 := by
  refine h_body [.inr (some a0), .inl x1] RX10 (by decide) rfl (Nat.le_of_ble_eq_true rfl) ?_
  intro p e s m args below meth c C hin ls hV hl
  obtain ⟨-, hx, hb, hml, hown, hr, hlk, hK, hts⟩ := id C
  unfold fX10_rows at h
  refine hr_aload_n hx hb dX10_rows_0 rfl (hr_at hl 0 rfl) ?_
  refine lv_iload_n hx hb dX10_rows_1 rfl (hi_at hl 1 rfl) ?_
  obtain ⟨S1, g2, h3⟩ := hbind h; clear h
  refine h_put hx hb hown hV g2 (fpRX10_125 hts hK) rfl rfl dX10_rows_2 (fun H locs hV => ?_)
  refine hr_aload_n hx hb dX10_rows_5 rfl (hr_at hl 0 rfl) ?_
  refine lv_iload_n hx hb dX10_rows_6 rfl (hi_at hl 1 rfl) ?_
  obtain ⟨S4, g5, h6⟩ := hbind h3; clear h3
  refine h_put hx hb hown hV g5 (fpRX10_128 hts hK) rfl rfl dX10_rows_7 (fun H locs hV => ?_)
  refine hr_aload_n hx hb dX10_rows_10 rfl (hr_at hl 0 rfl) ?_
  refine lv_iload_n hx hb dX10_rows_11 rfl (hi_at hl 1 rfl) ?_
  refine hr_aload_n hx hb dX10_rows_12 rfl (hr_at hl 0 rfl) ?_
  obtain ⟨v7, g8, h9⟩ := hbind h6; clear h6
  refine h_gI hx hb hown hV g8 (flRX10_152 hts hK) dX10_rows_13 ?_
  refine lv_iadd hx hb dX10_rows_16 ?_
  refine hr_aload_n hx hb dX10_rows_17 rfl (hr_at hl 0 rfl) ?_
  obtain ⟨v10, g11, h12⟩ := hbind h9; clear h9
  refine h_gI hx hb hown hV g11 (flRX10_122 hts hK) dX10_rows_18 ?_
  refine h_mmin hx hb (hml.trans hl.1.symm) hown hts wd700 wd105 wd80 wd106 (Nat.le_of_ble_eq_true rfl) (hW_okL [.inr (some a0)] (Nat.le_of_ble_eq_true rfl)) (Nat.le_of_ble_eq_true rfl) (Nat.le_of_ble_eq_true rfl) dX10_rows_21 ?_
  obtain ⟨S13, g14, h15⟩ := hbind h12; clear h12
  refine h_put hx hb hown hV g14 (fpRX10_134 hts hK) rfl rfl dX10_rows_24 (fun H locs hV => ?_)
  refine hr_aload_n hx hb dX10_rows_27 rfl (hr_at hl 0 rfl) ?_
  refine hr_aload_n hx hb dX10_rows_28 rfl (hr_at hl 0 rfl) ?_
  obtain ⟨v16, g17, h18⟩ := hbind h15; clear h15
  refine h_gI hx hb hown hV g17 (flRX10_134 hts hK) dX10_rows_29 ?_
  obtain ⟨S19, g20, h21⟩ := hbind h18; clear h18
  refine h_put hx hb hown hV g20 (fpRX10_131 hts hK) rfl rfl dX10_rows_32 (fun H locs hV => ?_)
  refine hr_aload_n hx hb dX10_rows_35 rfl (hr_at hl 0 rfl) ?_
  refine lv_iload_n hx hb dX10_rows_36 rfl (hi_at hl 1 rfl) ?_
  refine lv_iconst (v := 2) hx hb dX10_rows_37 (by decide) ?_
  refine hr_aload_n hx hb dX10_rows_38 rfl (hr_at hl 0 rfl) ?_
  obtain ⟨v22, g23, h24⟩ := hbind h21; clear h21
  refine h_gI hx hb hown hV g23 (flRX10_152 hts hK) dX10_rows_39 ?_
  refine lv_imul hx hb dX10_rows_42 ?_
  refine lv_iadd hx hb dX10_rows_43 ?_
  refine hr_aload_n hx hb dX10_rows_44 rfl (hr_at hl 0 rfl) ?_
  obtain ⟨v25, g26, h27⟩ := hbind h24; clear h24
  refine h_gI hx hb hown hV g26 (flRX10_122 hts hK) dX10_rows_45 ?_
  refine h_mmin hx hb (hml.trans hl.1.symm) hown hts wd700 wd105 wd80 wd106 (Nat.le_of_ble_eq_true rfl) (hW_okL [.inr (some a0)] (Nat.le_of_ble_eq_true rfl)) (Nat.le_of_ble_eq_true rfl) (Nat.le_of_ble_eq_true rfl) dX10_rows_48 ?_
  obtain ⟨S28, g29, h30⟩ := hbind h27; clear h27
  refine h_put hx hb hown hV g29 (fpRX10_137 hts hK) rfl rfl dX10_rows_51 (fun H locs hV => ?_)
  refine hr_aload_n hx hb dX10_rows_54 rfl (hr_at hl 0 rfl) ?_
  refine lv_iload_n hx hb dX10_rows_55 rfl (hi_at hl 1 rfl) ?_
  obtain ⟨S31, g32, h33⟩ := hbind h30; clear h30
  refine h_put hx hb hown hV g32 (fpRX10_140 hts hK) rfl rfl dX10_rows_56 (fun H locs hV => ?_)
  exact h_vret hx hb hr hlk hV h33 (Nat.le_of_ble_eq_true rfl) (Nat.le_of_ble_eq_true rfl) dX10_rows_59
def fX10_target (fu : Nat) (S : hS) (a0 : Nat) : Option (Int32 × hS) := (gI S 9 28 (some a0)).bind fun v1 => if v1 = 0 then ((gR S 9 10 (some a0)).bind fun v14 =>
(gI S 9 20 (some a0)).bind fun v17 =>
(aI S 10 v14 v17).bind fun v20 =>
some (v20, S)) else ((gR S 9 9 (some a0)).bind fun v5 =>
(gI S 9 20 (some a0)).bind fun v8 =>
(aI S 10 v5 v8).bind fun v11 =>
some (v11, S))
set_option maxHeartbeats 4000000 in
set_option maxRecDepth 100000 in
theorem mX10_target (l : Launch) (D : hD) (fu : Nat) (S : hS) (a0 : Nat) (z : Int32 × hS) (h : fX10_target fu S a0 = some z) : hM l D yX10_target cX10_target 1 (some .int) 0 0 0 0 [va_rf (some a0)] S (some (.int z.1)) z.2 := by
  refine h_body [.inr (some a0)] RX10 (by decide) rfl (Nat.le_of_ble_eq_true rfl) ?_
  intro p e s m args below meth c C hin ls hV hl
  obtain ⟨-, hx, hb, hml, hown, hr, hlk, hK, hts⟩ := id C
  unfold fX10_target at h
  refine hr_aload_n hx hb dX10_target_0 rfl (hr_at hl 0 rfl) ?_
  obtain ⟨v1, g2, h3⟩ := hbind h; clear h
  refine h_gI hx hb hown hV g2 (flRX10_143 hts hK) dX10_target_1 ?_
  refine lv_if_ne (tgt := 19) hx hb dX10_target_4 (by decide) (fun c4 => ?_) (fun c4 => ?_)
  · rw [if_neg c4] at h3
    refine hr_aload_n hx hb dX10_target_19 rfl (hr_at hl 0 rfl) ?_
    obtain ⟨v5, g6, h7⟩ := hbind h3; clear h3
    refine h_gR hx hb hown hV g6 (flRX10_25 hts hK) dX10_target_20 ?_
    refine hr_aload_n hx hb dX10_target_23 rfl (hr_at hl 0 rfl) ?_
    obtain ⟨v8, g9, h10⟩ := hbind h7; clear h7
    refine h_gI hx hb hown hV g9 (flRX10_119 hts hK) dX10_target_24 ?_
    obtain ⟨v11, g12, h13⟩ := hbind h10; clear h10
    refine h_iald hx hb hK hV g12 dX10_target_27 ?_
    exact h_iret hx hb hr hlk hV h13 (Nat.le_of_ble_eq_true rfl) (Nat.le_of_ble_eq_true rfl) dX10_target_28
  · rw [if_pos c4] at h3
    refine hr_aload_n hx hb dX10_target_7 rfl (hr_at hl 0 rfl) ?_
    obtain ⟨v14, g15, h16⟩ := hbind h3; clear h3
    refine h_gR hx hb hown hV g15 (flRX10_28 hts hK) dX10_target_8 ?_
    refine hr_aload_n hx hb dX10_target_11 rfl (hr_at hl 0 rfl) ?_
    obtain ⟨v17, g18, h19⟩ := hbind h16; clear h16
    refine h_gI hx hb hown hV g18 (flRX10_119 hts hK) dX10_target_12 ?_
    obtain ⟨v20, g21, h22⟩ := hbind h19; clear h19
    refine h_iald hx hb hK hV g21 dX10_target_15 ?_
    refine lv_goto (tgt := 28) hx hb dX10_target_16 (by decide) ?_
    exact h_iret hx hb hr hlk hV h22 (Nat.le_of_ble_eq_true rfl) (Nat.le_of_ble_eq_true rfl) dX10_target_28
def fX10_source (fu : Nat) (S : hS) (a0 : Nat) : Option (Int32 × hS) := (gI S 9 28 (some a0)).bind fun v1 => if v1 = 0 then ((gR S 9 9 (some a0)).bind fun v14 =>
(gI S 9 20 (some a0)).bind fun v17 =>
(aI S 10 v14 v17).bind fun v20 =>
some (v20, S)) else ((gR S 9 10 (some a0)).bind fun v5 =>
(gI S 9 20 (some a0)).bind fun v8 =>
(aI S 10 v5 v8).bind fun v11 =>
some (v11, S))
set_option maxHeartbeats 4000000 in
set_option maxRecDepth 100000 in
theorem mX10_source (l : Launch) (D : hD) (fu : Nat) (S : hS) (a0 : Nat) (z : Int32 × hS) (h : fX10_source fu S a0 = some z) : hM l D yX10_source cX10_source 1 (some .int) 0 0 0 0 [va_rf (some a0)] S (some (.int z.1)) z.2 := by
  refine h_body [.inr (some a0)] RX10 (by decide) rfl (Nat.le_of_ble_eq_true rfl) ?_
  intro p e s m args below meth c C hin ls hV hl
  obtain ⟨-, hx, hb, hml, hown, hr, hlk, hK, hts⟩ := id C
  unfold fX10_source at h
  refine hr_aload_n hx hb dX10_source_0 rfl (hr_at hl 0 rfl) ?_
  obtain ⟨v1, g2, h3⟩ := hbind h; clear h
  refine h_gI hx hb hown hV g2 (flRX10_143 hts hK) dX10_source_1 ?_
  refine lv_if_ne (tgt := 19) hx hb dX10_source_4 (by decide) (fun c4 => ?_) (fun c4 => ?_)
  · rw [if_neg c4] at h3
    refine hr_aload_n hx hb dX10_source_19 rfl (hr_at hl 0 rfl) ?_
    obtain ⟨v5, g6, h7⟩ := hbind h3; clear h3
    refine h_gR hx hb hown hV g6 (flRX10_28 hts hK) dX10_source_20 ?_
    refine hr_aload_n hx hb dX10_source_23 rfl (hr_at hl 0 rfl) ?_
    obtain ⟨v8, g9, h10⟩ := hbind h7; clear h7
    refine h_gI hx hb hown hV g9 (flRX10_119 hts hK) dX10_source_24 ?_
    obtain ⟨v11, g12, h13⟩ := hbind h10; clear h10
    refine h_iald hx hb hK hV g12 dX10_source_27 ?_
    exact h_iret hx hb hr hlk hV h13 (Nat.le_of_ble_eq_true rfl) (Nat.le_of_ble_eq_true rfl) dX10_source_28
  · rw [if_pos c4] at h3
    refine hr_aload_n hx hb dX10_source_7 rfl (hr_at hl 0 rfl) ?_
    obtain ⟨v14, g15, h16⟩ := hbind h3; clear h3
    refine h_gR hx hb hown hV g15 (flRX10_25 hts hK) dX10_source_8 ?_
    refine hr_aload_n hx hb dX10_source_11 rfl (hr_at hl 0 rfl) ?_
    obtain ⟨v17, g18, h19⟩ := hbind h16; clear h16
    refine h_gI hx hb hown hV g18 (flRX10_119 hts hK) dX10_source_12 ?_
    obtain ⟨v20, g21, h22⟩ := hbind h19; clear h19
    refine h_iald hx hb hK hV g21 dX10_source_15 ?_
    refine lv_goto (tgt := 28) hx hb dX10_source_16 (by decide) ?_
    exact h_iret hx hb hr hlk hV h22 (Nat.le_of_ble_eq_true rfl) (Nat.le_of_ble_eq_true rfl) dX10_source_28
def fX10_mergeStands_228 (fu : Nat) : Nat → hS → Nat → Int32 → Option (Int32 × hS)
  | 0, _, _, _ => none
  | n + 1, S, a0, x1 => (gI S 9 21 (some a0)).bind fun v1 => if v1 ≤ x1 then ((zz (0 : Int32)).bind (fun v => some (v, S))) else ((gI S 9 28 (some a0)).bind fun v5 =>
if v5 = (1 : Int32) then ((gR S 9 3 (some a0)).bind fun v9 =>
(gR S 9 9 (some a0)).bind fun v12 =>
(gI S 9 20 (some a0)).bind fun v15 =>
(aI S 10 v12 v15).bind fun v18 =>
(gR S 9 3 (some a0)).bind fun v21 =>
(gR S 9 10 (some a0)).bind fun v24 =>
(gI S 9 20 (some a0)).bind fun v27 =>
(aI S 10 v24 v27).bind fun v30 =>
(aI S 10 v21 (v30 + x1)).bind fun v33 =>
(sV S 10 v9 (v18 + x1) (.int v33)).bind fun S36 =>
fX10_mergeStands_228 fu n S36 a0 (x1 + (1 : Int32))) else ((zz (0 : Int32)).bind (fun v => some (v, S))))
set_option maxHeartbeats 4000000 in
set_option maxRecDepth 100000 in
theorem kX10_mergeStands_228 {p : Program} {l : Launch} {e : Env} {s : State} {m : MethodId} {args : Array Value} {below : List Frame} {meth : Method} {c : Code} {D : hD} {S0 : hS} {z : Int32 × hS} (C : hCx p m c cX10_mergeStands 2 s args RX10 meth (some .boolean) D) (fu : Nat) : ∀ (n : Nat) (S : hS) (a0 : Nat) (x1 : Int32) (H : Heap) (locs : List Loc) (ls : Array Slot), fX10_mergeStands_228 fu n S a0 x1 = some z → h_V D (h_A S0) s S H locs → hl_has ls 2 [(0, .inr (some a0)), (1, .inl x1)] → W p l e { frames := 2, cells := 0, slots := 0, locals := 35 } s m args below meth c H locs 0 0 (MQ below (h_Q D (h_A S0) (some (.int z.1)) z.2) args s 0 0 (h_A S0)) (F0 m 228 ls []) := by
  obtain ⟨-, hx, hb, hml, hown, hr, hlk, hK, hts⟩ := id C
  intro n
  induction n with
  | zero =>
    intro S a0 x1 _ _ _ h hV hl
    rw [fX10_mergeStands_228] at h
    cases h
  | succ n ih =>
    intro S a0 x1 _ _ _ h hV hl
    rw [fX10_mergeStands_228] at h
    refine lv_iload_n hx hb dX10_mergeStands_228 rfl (hi_at hl 1 rfl) ?_
    refine hr_aload_n hx hb dX10_mergeStands_229 rfl (hr_at hl 0 rfl) ?_
    obtain ⟨v1, g2, h3⟩ := hbind h; clear h
    refine h_gI hx hb hown hV g2 (flRX10_122 hts hK) dX10_mergeStands_230 ?_
    refine lv_icmp_ge (tgt := 282) hx hb dX10_mergeStands_233 (by decide) (fun c4 => ?_) (fun c4 => ?_)
    · rw [if_pos c4] at h3
      refine lv_iconst (v := 0) hx hb dX10_mergeStands_282 (by decide) ?_
      exact h_zret hx hb hr hlk hV h3 (Nat.le_of_ble_eq_true rfl) (Nat.le_of_ble_eq_true rfl) dX10_mergeStands_283
    · rw [if_neg c4] at h3
      refine hr_aload_n hx hb dX10_mergeStands_236 rfl (hr_at hl 0 rfl) ?_
      obtain ⟨v5, g6, h7⟩ := hbind h3; clear h3
      refine h_gI hx hb hown hV g6 (flRX10_143 hts hK) dX10_mergeStands_237 ?_
      refine lv_iconst (v := 1) hx hb dX10_mergeStands_240 (by decide) ?_
      refine lv_icmp_ne (tgt := 282) hx hb dX10_mergeStands_241 (by decide) (fun c8 => ?_) (fun c8 => ?_)
      · rw [if_neg c8] at h7
        refine lv_iconst (v := 0) hx hb dX10_mergeStands_282 (by decide) ?_
        exact h_zret hx hb hr hlk hV h7 (Nat.le_of_ble_eq_true rfl) (Nat.le_of_ble_eq_true rfl) dX10_mergeStands_283
      · rw [if_pos c8] at h7
        refine hr_aload_n hx hb dX10_mergeStands_244 rfl (hr_at hl 0 rfl) ?_
        obtain ⟨v9, g10, h11⟩ := hbind h7; clear h7
        refine h_gR hx hb hown hV g10 (flRX10_69 hts hK) dX10_mergeStands_245 ?_
        refine hr_aload_n hx hb dX10_mergeStands_248 rfl (hr_at hl 0 rfl) ?_
        obtain ⟨v12, g13, h14⟩ := hbind h11; clear h11
        refine h_gR hx hb hown hV g13 (flRX10_25 hts hK) dX10_mergeStands_249 ?_
        refine hr_aload_n hx hb dX10_mergeStands_252 rfl (hr_at hl 0 rfl) ?_
        obtain ⟨v15, g16, h17⟩ := hbind h14; clear h14
        refine h_gI hx hb hown hV g16 (flRX10_119 hts hK) dX10_mergeStands_253 ?_
        obtain ⟨v18, g19, h20⟩ := hbind h17; clear h17
        refine h_iald hx hb hK hV g19 dX10_mergeStands_256 ?_
        refine lv_iload_n hx hb dX10_mergeStands_257 rfl (hi_at hl 1 rfl) ?_
        refine lv_iadd hx hb dX10_mergeStands_258 ?_
        refine hr_aload_n hx hb dX10_mergeStands_259 rfl (hr_at hl 0 rfl) ?_
        obtain ⟨v21, g22, h23⟩ := hbind h20; clear h20
        refine h_gR hx hb hown hV g22 (flRX10_69 hts hK) dX10_mergeStands_260 ?_
        refine hr_aload_n hx hb dX10_mergeStands_263 rfl (hr_at hl 0 rfl) ?_
        obtain ⟨v24, g25, h26⟩ := hbind h23; clear h23
        refine h_gR hx hb hown hV g25 (flRX10_28 hts hK) dX10_mergeStands_264 ?_
        refine hr_aload_n hx hb dX10_mergeStands_267 rfl (hr_at hl 0 rfl) ?_
        obtain ⟨v27, g28, h29⟩ := hbind h26; clear h26
        refine h_gI hx hb hown hV g28 (flRX10_119 hts hK) dX10_mergeStands_268 ?_
        obtain ⟨v30, g31, h32⟩ := hbind h29; clear h29
        refine h_iald hx hb hK hV g31 dX10_mergeStands_271 ?_
        refine lv_iload_n hx hb dX10_mergeStands_272 rfl (hi_at hl 1 rfl) ?_
        refine lv_iadd hx hb dX10_mergeStands_273 ?_
        obtain ⟨v33, g34, h35⟩ := hbind h32; clear h32
        refine h_iald hx hb hK hV g34 dX10_mergeStands_274 ?_
        obtain ⟨S36, g37, h38⟩ := hbind h35; clear h35
        refine h_iast hx hb hK hV g37 dX10_mergeStands_275 (fun H locs hV => ?_)
        refine h_iinc (v := (x1 + (1 : Int32))) (tl' := [(1, .inl (x1 + (1 : Int32))), (0, .inr (some a0))]) hx hb dX10_mergeStands_276 hl (k := 1) rfl rfl (by decide) rfl (fun ls hl => ?_)
        refine lv_goto (tgt := 228) hx hb dX10_mergeStands_279 (by decide) ?_
        exact ih S36 a0 (x1 + (1 : Int32)) _ _ _ h38 hV (hl_sub hl [1, 0] rfl)
def fX10_mergeStands_86 (fu : Nat) (k0 : hS → Nat → Option (Int32 × hS)) : Nat → hS → Nat → Option (Int32 × hS)
  | 0, _, _ => none
  | n + 1, S, a0 => (gI S 9 24 (some a0)).bind fun v1 => (gI S 9 26 (some a0)).bind fun v4 => if v4 ≤ v1 then ((gI S 9 22 (some a0)).bind fun v8 =>
(gI S 9 31 (some a0)).bind fun v11 =>
(gI S 9 21 (some a0)).bind fun v14 =>
if v14 ≤ (v8 + ((2 : Int32) * v11)) then ((gI S 9 28 (some a0)).bind fun v18 =>
(pV S 9 28 (some a0) (.int ((1 : Int32) - v18))).bind fun S21 =>
(gI S21 9 31 (some a0)).bind fun v24 =>
(pV S21 9 31 (some a0) (.int (v24 * (2 : Int32)))).bind fun S27 =>
(gI S27 9 31 (some a0)).bind fun v30 =>
(gI S27 9 21 (some a0)).bind fun v33 =>
if v30 < v33 then ((rcv S27 9 (some a0)).bind fun b39 =>
bn2 (fX10_rows fu S27 b39 (0 : Int32)) fun _ S38 =>
k0 S38 a0) else (fX10_mergeStands_228 fu fu S27 a0 (0 : Int32))) else ((gI S 9 22 (some a0)).bind fun v45 =>
(gI S 9 31 (some a0)).bind fun v48 =>
(rcv S 9 (some a0)).bind fun b53 =>
bn2 (fX10_rows fu S b53 (v45 + ((2 : Int32) * v48))) fun _ S52 =>
k0 S52 a0)) else ((gR S 9 3 (some a0)).bind fun v59 =>
(rcv S 9 (some a0)).bind fun b64 =>
bn2 (fX10_target fu S b64) fun r62 S63 =>
(gI S63 9 27 (some a0)).bind fun v70 =>
(gR S63 9 3 (some a0)).bind fun v73 =>
(rcv S63 9 (some a0)).bind fun b78 =>
bn2 (fX10_source fu S63 b78) fun r76 S77 =>
(gI S77 9 24 (some a0)).bind fun v84 =>
(aI S77 10 v73 (r76 + v84)).bind fun v87 =>
(sV S77 10 v59 (r62 + v70) (.int v87)).bind fun S90 =>
(gI S90 9 27 (some a0)).bind fun v93 =>
(pV S90 9 27 (some a0) (.int (v93 + (1 : Int32)))).bind fun S96 =>
(gI S96 9 24 (some a0)).bind fun v99 =>
(pV S96 9 24 (some a0) (.int (v99 + (1 : Int32)))).bind fun S102 =>
fX10_mergeStands_86 fu k0 n S102 a0)
set_option maxHeartbeats 4000000 in
set_option maxRecDepth 100000 in
theorem kX10_mergeStands_86 {p : Program} {l : Launch} {e : Env} {s : State} {m : MethodId} {args : Array Value} {below : List Frame} {meth : Method} {c : Code} {D : hD} {S0 : hS} {z : Int32 × hS} (C : hCx p m c cX10_mergeStands 2 s args RX10 meth (some .boolean) D) (fu : Nat) (k0 : hS → Nat → Option (Int32 × hS)) (hk0 : ∀ (S : hS) (a0 : Nat) (H : Heap) (locs : List Loc) (ls : Array Slot), k0 S a0 = some z → h_V D (h_A S0) s S H locs → hl_has ls 2 [(0, .inr (some a0))] → W p l e { frames := 2, cells := 0, slots := 0, locals := 35 } s m args below meth c H locs 0 0 (MQ below (h_Q D (h_A S0) (some (.int z.1)) z.2) args s 0 0 (h_A S0)) (F0 m 0 ls [])) : ∀ (n : Nat) (S : hS) (a0 : Nat) (H : Heap) (locs : List Loc) (ls : Array Slot), fX10_mergeStands_86 fu k0 n S a0 = some z → h_V D (h_A S0) s S H locs → hl_has ls 2 [(0, .inr (some a0))] → W p l e { frames := 2, cells := 0, slots := 0, locals := 35 } s m args below meth c H locs 0 0 (MQ below (h_Q D (h_A S0) (some (.int z.1)) z.2) args s 0 0 (h_A S0)) (F0 m 86 ls []) := by
  obtain ⟨-, hx, hb, hml, hown, hr, hlk, hK, hts⟩ := id C
  intro n
  induction n with
  | zero =>
    intro S a0 _ _ _ h hV hl
    rw [fX10_mergeStands_86] at h
    cases h
  | succ n ih =>
    intro S a0 _ _ _ h hV hl
    rw [fX10_mergeStands_86] at h
    refine hr_aload_n hx hb dX10_mergeStands_86 rfl (hr_at hl 0 rfl) ?_
    obtain ⟨v1, g2, h3⟩ := hbind h; clear h
    refine h_gI hx hb hown hV g2 (flRX10_131 hts hK) dX10_mergeStands_87 ?_
    refine hr_aload_n hx hb dX10_mergeStands_90 rfl (hr_at hl 0 rfl) ?_
    obtain ⟨v4, g5, h6⟩ := hbind h3; clear h3
    refine h_gI hx hb hown hV g5 (flRX10_137 hts hK) dX10_mergeStands_91 ?_
    refine lv_icmp_ge (tgt := 148) hx hb dX10_mergeStands_94 (by decide) (fun c7 => ?_) (fun c7 => ?_)
    · rw [if_pos c7] at h6
      refine hr_aload_n hx hb dX10_mergeStands_148 rfl (hr_at hl 0 rfl) ?_
      obtain ⟨v8, g9, h10⟩ := hbind h6; clear h6
      refine h_gI hx hb hown hV g9 (flRX10_125 hts hK) dX10_mergeStands_149 ?_
      refine lv_iconst (v := 2) hx hb dX10_mergeStands_152 (by decide) ?_
      refine hr_aload_n hx hb dX10_mergeStands_153 rfl (hr_at hl 0 rfl) ?_
      obtain ⟨v11, g12, h13⟩ := hbind h10; clear h10
      refine h_gI hx hb hown hV g12 (flRX10_152 hts hK) dX10_mergeStands_154 ?_
      refine lv_imul hx hb dX10_mergeStands_157 ?_
      refine lv_iadd hx hb dX10_mergeStands_158 ?_
      refine hr_aload_n hx hb dX10_mergeStands_159 rfl (hr_at hl 0 rfl) ?_
      obtain ⟨v14, g15, h16⟩ := hbind h13; clear h13
      refine h_gI hx hb hown hV g15 (flRX10_122 hts hK) dX10_mergeStands_160 ?_
      refine lv_icmp_ge (tgt := 184) hx hb dX10_mergeStands_163 (by decide) (fun c17 => ?_) (fun c17 => ?_)
      · rw [if_pos c17] at h16
        refine hr_aload_n hx hb dX10_mergeStands_184 rfl (hr_at hl 0 rfl) ?_
        refine lv_iconst (v := 1) hx hb dX10_mergeStands_185 (by decide) ?_
        refine hr_aload_n hx hb dX10_mergeStands_186 rfl (hr_at hl 0 rfl) ?_
        obtain ⟨v18, g19, h20⟩ := hbind h16; clear h16
        refine h_gI hx hb hown hV g19 (flRX10_143 hts hK) dX10_mergeStands_187 ?_
        refine lv_isub hx hb dX10_mergeStands_190 ?_
        obtain ⟨S21, g22, h23⟩ := hbind h20; clear h20
        refine h_put hx hb hown hV g22 (fpRX10_143 hts hK) rfl rfl dX10_mergeStands_191 (fun H locs hV => ?_)
        refine hr_aload_n hx hb dX10_mergeStands_194 rfl (hr_at hl 0 rfl) ?_
        refine hr_dup hx hb dX10_mergeStands_195 ?_
        obtain ⟨v24, g25, h26⟩ := hbind h23; clear h23
        refine h_gI hx hb hown hV g25 (flRX10_152 hts hK) dX10_mergeStands_196 ?_
        refine lv_iconst (v := 2) hx hb dX10_mergeStands_199 (by decide) ?_
        refine lv_imul hx hb dX10_mergeStands_200 ?_
        obtain ⟨S27, g28, h29⟩ := hbind h26; clear h26
        refine h_put hx hb hown hV g28 (fpRX10_152 hts hK) rfl rfl dX10_mergeStands_201 (fun H locs hV => ?_)
        refine hr_aload_n hx hb dX10_mergeStands_204 rfl (hr_at hl 0 rfl) ?_
        obtain ⟨v30, g31, h32⟩ := hbind h29; clear h29
        refine h_gI hx hb hown hV g31 (flRX10_152 hts hK) dX10_mergeStands_205 ?_
        refine hr_aload_n hx hb dX10_mergeStands_208 rfl (hr_at hl 0 rfl) ?_
        obtain ⟨v33, g34, h35⟩ := hbind h32; clear h32
        refine h_gI hx hb hown hV g34 (flRX10_122 hts hK) dX10_mergeStands_209 ?_
        refine lv_icmp_lt (tgt := 218) hx hb dX10_mergeStands_212 (by decide) (fun c36 => ?_) (fun c36 => ?_)
        · rw [if_pos c36] at h35
          refine hr_aload_n hx hb dX10_mergeStands_218 rfl (hr_at hl 0 rfl) ?_
          refine lv_iconst (v := 0) hx hb dX10_mergeStands_219 (by decide) ?_
          obtain ⟨b39, g40, h41⟩ := hbind h35; clear h35
          obtain ⟨_, _, e42, q42⟩ := rcv_inv g40
          obtain ⟨r37, S38, g43, h44⟩ := hbn2 h41; clear h41
          refine h_callV (n := 1) (As := [.int (0 : Int32)]) (rest := []) (st1 := []) (fr := 1) (lo := 14) (mc := 0) (ms := 0) C.1 hK hV q42 rfl rfl wd891 wd888 wd890 wd61 wd83 ⟨by decide, by decide, by decide⟩ ⟨(Nat.le_of_ble_eq_true rfl), (Nat.le_of_ble_eq_true rfl)⟩ rfl hl.1 (hW_ok [] (Nat.le_of_ble_eq_true rfl)) dX10_mergeStands_220 ⟨(Nat.le_of_ble_eq_true rfl), (Nat.le_of_ble_eq_true rfl)⟩ rfl (by rw [e42]; rfl) (mX10_rows l D fu S27 b39 (0 : Int32) _ g43) (fun H locs hV => ?_)
          refine lv_goto (tgt := 0) hx hb dX10_mergeStands_223 (by decide) ?_
          exact hk0 S38 a0 _ _ _ h44 hV (hl_sub hl [0] rfl)
        · rw [if_neg c36] at h35
          refine lv_goto (tgt := 226) hx hb dX10_mergeStands_215 (by decide) ?_
          refine lv_iconst (v := 0) hx hb dX10_mergeStands_226 (by decide) ?_
          refine h_istore_n (tl' := [(1, .inl (0 : Int32)), (0, .inr (some a0))]) hx hb dX10_mergeStands_227 rfl hl (by decide) rfl (fun ls hl => ?_)
          exact kX10_mergeStands_228 C fu fu S27 a0 (0 : Int32) _ _ _ h35 hV (hl_sub hl [1, 0] rfl)
      · rw [if_neg c17] at h16
        refine hr_aload_n hx hb dX10_mergeStands_166 rfl (hr_at hl 0 rfl) ?_
        refine hr_aload_n hx hb dX10_mergeStands_167 rfl (hr_at hl 0 rfl) ?_
        obtain ⟨v45, g46, h47⟩ := hbind h16; clear h16
        refine h_gI hx hb hown hV g46 (flRX10_125 hts hK) dX10_mergeStands_168 ?_
        refine lv_iconst (v := 2) hx hb dX10_mergeStands_171 (by decide) ?_
        refine hr_aload_n hx hb dX10_mergeStands_172 rfl (hr_at hl 0 rfl) ?_
        obtain ⟨v48, g49, h50⟩ := hbind h47; clear h47
        refine h_gI hx hb hown hV g49 (flRX10_152 hts hK) dX10_mergeStands_173 ?_
        refine lv_imul hx hb dX10_mergeStands_176 ?_
        refine lv_iadd hx hb dX10_mergeStands_177 ?_
        obtain ⟨b53, g54, h55⟩ := hbind h50; clear h50
        obtain ⟨_, _, e56, q56⟩ := rcv_inv g54
        obtain ⟨r51, S52, g57, h58⟩ := hbn2 h55; clear h55
        refine h_callV (n := 1) (As := [.int (v45 + ((2 : Int32) * v48))]) (rest := []) (st1 := []) (fr := 1) (lo := 14) (mc := 0) (ms := 0) C.1 hK hV q56 rfl rfl wd891 wd888 wd890 wd61 wd83 ⟨by decide, by decide, by decide⟩ ⟨(Nat.le_of_ble_eq_true rfl), (Nat.le_of_ble_eq_true rfl)⟩ rfl hl.1 (hW_ok [] (Nat.le_of_ble_eq_true rfl)) dX10_mergeStands_178 ⟨(Nat.le_of_ble_eq_true rfl), (Nat.le_of_ble_eq_true rfl)⟩ rfl (by rw [e56]; rfl) (mX10_rows l D fu S b53 (v45 + ((2 : Int32) * v48)) _ g57) (fun H locs hV => ?_)
        refine lv_goto (tgt := 0) hx hb dX10_mergeStands_181 (by decide) ?_
        exact hk0 S52 a0 _ _ _ h58 hV (hl_sub hl [0] rfl)
    · rw [if_neg c7] at h6
      refine hr_aload_n hx hb dX10_mergeStands_97 rfl (hr_at hl 0 rfl) ?_
      obtain ⟨v59, g60, h61⟩ := hbind h6; clear h6
      refine h_gR hx hb hown hV g60 (flRX10_69 hts hK) dX10_mergeStands_98 ?_
      refine hr_aload_n hx hb dX10_mergeStands_101 rfl (hr_at hl 0 rfl) ?_
      obtain ⟨b64, g65, h66⟩ := hbind h61; clear h61
      obtain ⟨_, _, e67, q67⟩ := rcv_inv g65
      obtain ⟨r62, S63, g68, h69⟩ := hbn2 h66; clear h66
      refine h_callV (n := 0) (As := []) (rest := [va_rf v59]) (st1 := [.int r62, va_rf v59]) (fr := 0) (lo := 0) (mc := 0) (ms := 0) C.1 hK hV q67 rfl rfl wd899 wd896 wd898 wd63 wd83 ⟨by decide, by decide, by decide⟩ ⟨(Nat.le_of_ble_eq_true rfl), (Nat.le_of_ble_eq_true rfl)⟩ rfl hl.1 (hW_ok [.inr v59] (Nat.le_of_ble_eq_true rfl)) dX10_mergeStands_102 ⟨(Nat.le_of_ble_eq_true rfl), (Nat.le_of_ble_eq_true rfl)⟩ rfl (by rw [e67]; rfl) (mX10_target l D fu S b64 _ g68) (fun H locs hV => ?_)
      refine hr_aload_n hx hb dX10_mergeStands_105 rfl (hr_at hl 0 rfl) ?_
      obtain ⟨v70, g71, h72⟩ := hbind h69; clear h69
      refine h_gI hx hb hown hV g71 (flRX10_140 hts hK) dX10_mergeStands_106 ?_
      refine lv_iadd hx hb dX10_mergeStands_109 ?_
      refine hr_aload_n hx hb dX10_mergeStands_110 rfl (hr_at hl 0 rfl) ?_
      obtain ⟨v73, g74, h75⟩ := hbind h72; clear h72
      refine h_gR hx hb hown hV g74 (flRX10_69 hts hK) dX10_mergeStands_111 ?_
      refine hr_aload_n hx hb dX10_mergeStands_114 rfl (hr_at hl 0 rfl) ?_
      obtain ⟨b78, g79, h80⟩ := hbind h75; clear h75
      obtain ⟨_, _, e81, q81⟩ := rcv_inv g79
      obtain ⟨r76, S77, g82, h83⟩ := hbn2 h80; clear h80
      refine h_callV (n := 0) (As := []) (rest := [va_rf v73, .int (r62 + v70), va_rf v59]) (st1 := [.int r76, va_rf v73, .int (r62 + v70), va_rf v59]) (fr := 0) (lo := 0) (mc := 0) (ms := 0) C.1 hK hV q81 rfl rfl wd903 wd900 wd902 wd64 wd83 ⟨by decide, by decide, by decide⟩ ⟨(Nat.le_of_ble_eq_true rfl), (Nat.le_of_ble_eq_true rfl)⟩ rfl hl.1 (hW_ok [.inr v73, .inl (r62 + v70), .inr v59] (Nat.le_of_ble_eq_true rfl)) dX10_mergeStands_115 ⟨(Nat.le_of_ble_eq_true rfl), (Nat.le_of_ble_eq_true rfl)⟩ rfl (by rw [e81]; rfl) (mX10_source l D fu S63 b78 _ g82) (fun H locs hV => ?_)
      refine hr_aload_n hx hb dX10_mergeStands_118 rfl (hr_at hl 0 rfl) ?_
      obtain ⟨v84, g85, h86⟩ := hbind h83; clear h83
      refine h_gI hx hb hown hV g85 (flRX10_131 hts hK) dX10_mergeStands_119 ?_
      refine lv_iadd hx hb dX10_mergeStands_122 ?_
      obtain ⟨v87, g88, h89⟩ := hbind h86; clear h86
      refine h_iald hx hb hK hV g88 dX10_mergeStands_123 ?_
      obtain ⟨S90, g91, h92⟩ := hbind h89; clear h89
      refine h_iast hx hb hK hV g91 dX10_mergeStands_124 (fun H locs hV => ?_)
      refine hr_aload_n hx hb dX10_mergeStands_125 rfl (hr_at hl 0 rfl) ?_
      refine hr_dup hx hb dX10_mergeStands_126 ?_
      obtain ⟨v93, g94, h95⟩ := hbind h92; clear h92
      refine h_gI hx hb hown hV g94 (flRX10_140 hts hK) dX10_mergeStands_127 ?_
      refine lv_iconst (v := 1) hx hb dX10_mergeStands_130 (by decide) ?_
      refine lv_iadd hx hb dX10_mergeStands_131 ?_
      obtain ⟨S96, g97, h98⟩ := hbind h95; clear h95
      refine h_put hx hb hown hV g97 (fpRX10_140 hts hK) rfl rfl dX10_mergeStands_132 (fun H locs hV => ?_)
      refine hr_aload_n hx hb dX10_mergeStands_135 rfl (hr_at hl 0 rfl) ?_
      refine hr_dup hx hb dX10_mergeStands_136 ?_
      obtain ⟨v99, g100, h101⟩ := hbind h98; clear h98
      refine h_gI hx hb hown hV g100 (flRX10_131 hts hK) dX10_mergeStands_137 ?_
      refine lv_iconst (v := 1) hx hb dX10_mergeStands_140 (by decide) ?_
      refine lv_iadd hx hb dX10_mergeStands_141 ?_
      obtain ⟨S102, g103, h104⟩ := hbind h101; clear h101
      refine h_put hx hb hown hV g103 (fpRX10_131 hts hK) rfl rfl dX10_mergeStands_142 (fun H locs hV => ?_)
      refine lv_goto (tgt := 86) hx hb dX10_mergeStands_145 (by decide) ?_
      exact ih S102 a0 _ _ _ h104 hV (hl_sub hl [0] rfl)
def fX10_mergeStands_24 (fu : Nat) (k0 : hS → Nat → Option (Int32 × hS)) : Nat → hS → Nat → Option (Int32 × hS)
  | 0, _, _ => none
  | n + 1, S, a0 => (gI S 9 23 (some a0)).bind fun v1 => (gI S 9 25 (some a0)).bind fun v4 => if v4 ≤ v1 then (fX10_mergeStands_86 fu k0 fu S a0) else ((gR S 9 3 (some a0)).bind fun v8 =>
(rcv S 9 (some a0)).bind fun b13 =>
bn2 (fX10_target fu S b13) fun r11 S12 =>
(gI S12 9 27 (some a0)).bind fun v19 =>
(gR S12 9 3 (some a0)).bind fun v22 =>
(rcv S12 9 (some a0)).bind fun b27 =>
bn2 (fX10_source fu S12 b27) fun r25 S26 =>
(gI S26 9 23 (some a0)).bind fun v33 =>
(aI S26 10 v22 (r25 + v33)).bind fun v36 =>
(sV S26 10 v8 (r11 + v19) (.int v36)).bind fun S39 =>
(gI S39 9 27 (some a0)).bind fun v42 =>
(pV S39 9 27 (some a0) (.int (v42 + (1 : Int32)))).bind fun S45 =>
(gI S45 9 23 (some a0)).bind fun v48 =>
(pV S45 9 23 (some a0) (.int (v48 + (1 : Int32)))).bind fun S51 =>
fX10_mergeStands_24 fu k0 n S51 a0)
set_option maxHeartbeats 4000000 in
set_option maxRecDepth 100000 in
theorem kX10_mergeStands_24 {p : Program} {l : Launch} {e : Env} {s : State} {m : MethodId} {args : Array Value} {below : List Frame} {meth : Method} {c : Code} {D : hD} {S0 : hS} {z : Int32 × hS} (C : hCx p m c cX10_mergeStands 2 s args RX10 meth (some .boolean) D) (fu : Nat) (k0 : hS → Nat → Option (Int32 × hS)) (hk0 : ∀ (S : hS) (a0 : Nat) (H : Heap) (locs : List Loc) (ls : Array Slot), k0 S a0 = some z → h_V D (h_A S0) s S H locs → hl_has ls 2 [(0, .inr (some a0))] → W p l e { frames := 2, cells := 0, slots := 0, locals := 35 } s m args below meth c H locs 0 0 (MQ below (h_Q D (h_A S0) (some (.int z.1)) z.2) args s 0 0 (h_A S0)) (F0 m 0 ls [])) : ∀ (n : Nat) (S : hS) (a0 : Nat) (H : Heap) (locs : List Loc) (ls : Array Slot), fX10_mergeStands_24 fu k0 n S a0 = some z → h_V D (h_A S0) s S H locs → hl_has ls 2 [(0, .inr (some a0))] → W p l e { frames := 2, cells := 0, slots := 0, locals := 35 } s m args below meth c H locs 0 0 (MQ below (h_Q D (h_A S0) (some (.int z.1)) z.2) args s 0 0 (h_A S0)) (F0 m 24 ls []) := by
  obtain ⟨-, hx, hb, hml, hown, hr, hlk, hK, hts⟩ := id C
  intro n
  induction n with
  | zero =>
    intro S a0 _ _ _ h hV hl
    rw [fX10_mergeStands_24] at h
    cases h
  | succ n ih =>
    intro S a0 _ _ _ h hV hl
    rw [fX10_mergeStands_24] at h
    refine hr_aload_n hx hb dX10_mergeStands_24 rfl (hr_at hl 0 rfl) ?_
    obtain ⟨v1, g2, h3⟩ := hbind h; clear h
    refine h_gI hx hb hown hV g2 (flRX10_128 hts hK) dX10_mergeStands_25 ?_
    refine hr_aload_n hx hb dX10_mergeStands_28 rfl (hr_at hl 0 rfl) ?_
    obtain ⟨v4, g5, h6⟩ := hbind h3; clear h3
    refine h_gI hx hb hown hV g5 (flRX10_134 hts hK) dX10_mergeStands_29 ?_
    refine lv_icmp_ge (tgt := 86) hx hb dX10_mergeStands_32 (by decide) (fun c7 => ?_) (fun c7 => ?_)
    · rw [if_pos c7] at h6
      exact kX10_mergeStands_86 C fu k0 hk0 fu S a0 _ _ _ h6 hV (hl_sub hl [0] rfl)
    · rw [if_neg c7] at h6
      refine hr_aload_n hx hb dX10_mergeStands_35 rfl (hr_at hl 0 rfl) ?_
      obtain ⟨v8, g9, h10⟩ := hbind h6; clear h6
      refine h_gR hx hb hown hV g9 (flRX10_69 hts hK) dX10_mergeStands_36 ?_
      refine hr_aload_n hx hb dX10_mergeStands_39 rfl (hr_at hl 0 rfl) ?_
      obtain ⟨b13, g14, h15⟩ := hbind h10; clear h10
      obtain ⟨_, _, e16, q16⟩ := rcv_inv g14
      obtain ⟨r11, S12, g17, h18⟩ := hbn2 h15; clear h15
      refine h_callV (n := 0) (As := []) (rest := [va_rf v8]) (st1 := [.int r11, va_rf v8]) (fr := 0) (lo := 0) (mc := 0) (ms := 0) C.1 hK hV q16 rfl rfl wd899 wd896 wd898 wd63 wd83 ⟨by decide, by decide, by decide⟩ ⟨(Nat.le_of_ble_eq_true rfl), (Nat.le_of_ble_eq_true rfl)⟩ rfl hl.1 (hW_ok [.inr v8] (Nat.le_of_ble_eq_true rfl)) dX10_mergeStands_40 ⟨(Nat.le_of_ble_eq_true rfl), (Nat.le_of_ble_eq_true rfl)⟩ rfl (by rw [e16]; rfl) (mX10_target l D fu S b13 _ g17) (fun H locs hV => ?_)
      refine hr_aload_n hx hb dX10_mergeStands_43 rfl (hr_at hl 0 rfl) ?_
      obtain ⟨v19, g20, h21⟩ := hbind h18; clear h18
      refine h_gI hx hb hown hV g20 (flRX10_140 hts hK) dX10_mergeStands_44 ?_
      refine lv_iadd hx hb dX10_mergeStands_47 ?_
      refine hr_aload_n hx hb dX10_mergeStands_48 rfl (hr_at hl 0 rfl) ?_
      obtain ⟨v22, g23, h24⟩ := hbind h21; clear h21
      refine h_gR hx hb hown hV g23 (flRX10_69 hts hK) dX10_mergeStands_49 ?_
      refine hr_aload_n hx hb dX10_mergeStands_52 rfl (hr_at hl 0 rfl) ?_
      obtain ⟨b27, g28, h29⟩ := hbind h24; clear h24
      obtain ⟨_, _, e30, q30⟩ := rcv_inv g28
      obtain ⟨r25, S26, g31, h32⟩ := hbn2 h29; clear h29
      refine h_callV (n := 0) (As := []) (rest := [va_rf v22, .int (r11 + v19), va_rf v8]) (st1 := [.int r25, va_rf v22, .int (r11 + v19), va_rf v8]) (fr := 0) (lo := 0) (mc := 0) (ms := 0) C.1 hK hV q30 rfl rfl wd903 wd900 wd902 wd64 wd83 ⟨by decide, by decide, by decide⟩ ⟨(Nat.le_of_ble_eq_true rfl), (Nat.le_of_ble_eq_true rfl)⟩ rfl hl.1 (hW_ok [.inr v22, .inl (r11 + v19), .inr v8] (Nat.le_of_ble_eq_true rfl)) dX10_mergeStands_53 ⟨(Nat.le_of_ble_eq_true rfl), (Nat.le_of_ble_eq_true rfl)⟩ rfl (by rw [e30]; rfl) (mX10_source l D fu S12 b27 _ g31) (fun H locs hV => ?_)
      refine hr_aload_n hx hb dX10_mergeStands_56 rfl (hr_at hl 0 rfl) ?_
      obtain ⟨v33, g34, h35⟩ := hbind h32; clear h32
      refine h_gI hx hb hown hV g34 (flRX10_128 hts hK) dX10_mergeStands_57 ?_
      refine lv_iadd hx hb dX10_mergeStands_60 ?_
      obtain ⟨v36, g37, h38⟩ := hbind h35; clear h35
      refine h_iald hx hb hK hV g37 dX10_mergeStands_61 ?_
      obtain ⟨S39, g40, h41⟩ := hbind h38; clear h38
      refine h_iast hx hb hK hV g40 dX10_mergeStands_62 (fun H locs hV => ?_)
      refine hr_aload_n hx hb dX10_mergeStands_63 rfl (hr_at hl 0 rfl) ?_
      refine hr_dup hx hb dX10_mergeStands_64 ?_
      obtain ⟨v42, g43, h44⟩ := hbind h41; clear h41
      refine h_gI hx hb hown hV g43 (flRX10_140 hts hK) dX10_mergeStands_65 ?_
      refine lv_iconst (v := 1) hx hb dX10_mergeStands_68 (by decide) ?_
      refine lv_iadd hx hb dX10_mergeStands_69 ?_
      obtain ⟨S45, g46, h47⟩ := hbind h44; clear h44
      refine h_put hx hb hown hV g46 (fpRX10_140 hts hK) rfl rfl dX10_mergeStands_70 (fun H locs hV => ?_)
      refine hr_aload_n hx hb dX10_mergeStands_73 rfl (hr_at hl 0 rfl) ?_
      refine hr_dup hx hb dX10_mergeStands_74 ?_
      obtain ⟨v48, g49, h50⟩ := hbind h47; clear h47
      refine h_gI hx hb hown hV g49 (flRX10_128 hts hK) dX10_mergeStands_75 ?_
      refine lv_iconst (v := 1) hx hb dX10_mergeStands_78 (by decide) ?_
      refine lv_iadd hx hb dX10_mergeStands_79 ?_
      obtain ⟨S51, g52, h53⟩ := hbind h50; clear h50
      refine h_put hx hb hown hV g52 (fpRX10_128 hts hK) rfl rfl dX10_mergeStands_80 (fun H locs hV => ?_)
      refine lv_goto (tgt := 24) hx hb dX10_mergeStands_83 (by decide) ?_
      exact ih S51 a0 _ _ _ h53 hV (hl_sub hl [0] rfl)
def fX10_mergeStands_0 (fu : Nat) : Nat → hS → Nat → Option (Int32 × hS)
  | 0, _, _ => none
  | n + 1, S, a0 => (gI S 9 23 (some a0)).bind fun v1 => (gI S 9 25 (some a0)).bind fun v4 => if v4 ≤ v1 then (fX10_mergeStands_24 fu (fX10_mergeStands_0 fu n) fu S a0) else ((gI S 9 24 (some a0)).bind fun v8 =>
(gI S 9 26 (some a0)).bind fun v11 =>
if v11 ≤ v8 then (fX10_mergeStands_24 fu (fX10_mergeStands_0 fu n) fu S a0) else ((zz (1 : Int32)).bind (fun v => some (v, S))))
set_option maxHeartbeats 4000000 in
set_option maxRecDepth 100000 in
theorem kX10_mergeStands_0 {p : Program} {l : Launch} {e : Env} {s : State} {m : MethodId} {args : Array Value} {below : List Frame} {meth : Method} {c : Code} {D : hD} {S0 : hS} {z : Int32 × hS} (C : hCx p m c cX10_mergeStands 2 s args RX10 meth (some .boolean) D) (fu : Nat) : ∀ (n : Nat) (S : hS) (a0 : Nat) (H : Heap) (locs : List Loc) (ls : Array Slot), fX10_mergeStands_0 fu n S a0 = some z → h_V D (h_A S0) s S H locs → hl_has ls 2 [(0, .inr (some a0))] → W p l e { frames := 2, cells := 0, slots := 0, locals := 35 } s m args below meth c H locs 0 0 (MQ below (h_Q D (h_A S0) (some (.int z.1)) z.2) args s 0 0 (h_A S0)) (F0 m 0 ls []) := by
  obtain ⟨-, hx, hb, hml, hown, hr, hlk, hK, hts⟩ := id C
  intro n
  induction n with
  | zero =>
    intro S a0 _ _ _ h hV hl
    rw [fX10_mergeStands_0] at h
    cases h
  | succ n ih =>
    intro S a0 _ _ _ h hV hl
    rw [fX10_mergeStands_0] at h
    refine hr_aload_n hx hb dX10_mergeStands_0 rfl (hr_at hl 0 rfl) ?_
    obtain ⟨v1, g2, h3⟩ := hbind h; clear h
    refine h_gI hx hb hown hV g2 (flRX10_128 hts hK) dX10_mergeStands_1 ?_
    refine hr_aload_n hx hb dX10_mergeStands_4 rfl (hr_at hl 0 rfl) ?_
    obtain ⟨v4, g5, h6⟩ := hbind h3; clear h3
    refine h_gI hx hb hown hV g5 (flRX10_134 hts hK) dX10_mergeStands_5 ?_
    refine lv_icmp_ge (tgt := 24) hx hb dX10_mergeStands_8 (by decide) (fun c7 => ?_) (fun c7 => ?_)
    · rw [if_pos c7] at h6
      exact kX10_mergeStands_24 C fu (fX10_mergeStands_0 fu n) ih fu S a0 _ _ _ h6 hV (hl_sub hl [0] rfl)
    · rw [if_neg c7] at h6
      refine hr_aload_n hx hb dX10_mergeStands_11 rfl (hr_at hl 0 rfl) ?_
      obtain ⟨v8, g9, h10⟩ := hbind h6; clear h6
      refine h_gI hx hb hown hV g9 (flRX10_131 hts hK) dX10_mergeStands_12 ?_
      refine hr_aload_n hx hb dX10_mergeStands_15 rfl (hr_at hl 0 rfl) ?_
      obtain ⟨v11, g12, h13⟩ := hbind h10; clear h10
      refine h_gI hx hb hown hV g12 (flRX10_137 hts hK) dX10_mergeStands_16 ?_
      refine lv_icmp_ge (tgt := 24) hx hb dX10_mergeStands_19 (by decide) (fun c14 => ?_) (fun c14 => ?_)
      · rw [if_pos c14] at h13
        exact kX10_mergeStands_24 C fu (fX10_mergeStands_0 fu n) ih fu S a0 _ _ _ h13 hV (hl_sub hl [0] rfl)
      · rw [if_neg c14] at h13
        refine lv_iconst (v := 1) hx hb dX10_mergeStands_22 (by decide) ?_
        exact h_zret hx hb hr hlk hV h13 (Nat.le_of_ble_eq_true rfl) (Nat.le_of_ble_eq_true rfl) dX10_mergeStands_23
def fX10_mergeStands (fu : Nat) (S : hS) (a0 : Nat) : Option (Int32 × hS) := fX10_mergeStands_0 fu fu S a0
set_option maxHeartbeats 4000000 in
set_option maxRecDepth 100000 in
theorem mX10_mergeStands (l : Launch) (D : hD) (fu : Nat) (S : hS) (a0 : Nat) (z : Int32 × hS) (h : fX10_mergeStands fu S a0 = some z) : hM l D yX10_mergeStands cX10_mergeStands 2 (some .boolean) 2 35 0 0 [va_rf (some a0)] S (some (.int z.1)) z.2 := by
  refine h_body [.inr (some a0)] RX10 (by decide) rfl (Nat.le_of_ble_eq_true rfl) ?_
  intro p e s m args below meth c C hin ls hV hl
  obtain ⟨-, hx, hb, hml, hown, hr, hlk, hK, hts⟩ := id C
  unfold fX10_mergeStands at h
  exact kX10_mergeStands_0 C fu fu S a0 _ _ _ h hV (hl_sub hl [0] rfl)
def fX10_mergeBegins (fu : Nat) (S : hS) (a0 : Nat) : Option (Int32 × hS) := (pV S 9 31 (some a0) (.int (1 : Int32))).bind fun S1 => (pV S1 9 28 (some a0) (.int (0 : Int32))).bind fun S4 => (gI S4 9 21 (some a0)).bind fun v7 => if (2 : Int32) ≤ v7 then ((rcv S4 9 (some a0)).bind fun b13 =>
bn2 (fX10_rows fu S4 b13 (0 : Int32)) fun _ S12 =>
(rcv S12 9 (some a0)).bind fun b21 =>
bn2 (fX10_mergeStands fu S12 b21) fun r19 S20 =>
(zz r19).bind (fun v => some (v, S20))) else ((zz (0 : Int32)).bind (fun v => some (v, S4)))
set_option maxHeartbeats 4000000 in
set_option maxRecDepth 100000 in
theorem mX10_mergeBegins (l : Launch) (D : hD) (fu : Nat) (S : hS) (a0 : Nat) (z : Int32 × hS) (h : fX10_mergeBegins fu S a0 = some z) : hM l D yX10_mergeBegins cX10_mergeBegins 1 (some .boolean) 3 56 0 0 [va_rf (some a0)] S (some (.int z.1)) z.2 := by
  refine h_body [.inr (some a0)] RX10 (by decide) rfl (Nat.le_of_ble_eq_true rfl) ?_
  intro p e s m args below meth c C hin ls hV hl
  obtain ⟨-, hx, hb, hml, hown, hr, hlk, hK, hts⟩ := id C
  unfold fX10_mergeBegins at h
  refine hr_aload_n hx hb dX10_mergeBegins_0 rfl (hr_at hl 0 rfl) ?_
  refine lv_iconst (v := 1) hx hb dX10_mergeBegins_1 (by decide) ?_
  obtain ⟨S1, g2, h3⟩ := hbind h; clear h
  refine h_put hx hb hown hV g2 (fpRX10_152 hts hK) rfl rfl dX10_mergeBegins_2 (fun H locs hV => ?_)
  refine hr_aload_n hx hb dX10_mergeBegins_5 rfl (hr_at hl 0 rfl) ?_
  refine lv_iconst (v := 0) hx hb dX10_mergeBegins_6 (by decide) ?_
  obtain ⟨S4, g5, h6⟩ := hbind h3; clear h3
  refine h_put hx hb hown hV g5 (fpRX10_143 hts hK) rfl rfl dX10_mergeBegins_7 (fun H locs hV => ?_)
  refine hr_aload_n hx hb dX10_mergeBegins_10 rfl (hr_at hl 0 rfl) ?_
  obtain ⟨v7, g8, h9⟩ := hbind h6; clear h6
  refine h_gI hx hb hown hV g8 (flRX10_122 hts hK) dX10_mergeBegins_11 ?_
  refine lv_iconst (v := 2) hx hb dX10_mergeBegins_14 (by decide) ?_
  refine lv_icmp_ge (tgt := 20) hx hb dX10_mergeBegins_15 (by decide) (fun c10 => ?_) (fun c10 => ?_)
  · rw [if_pos c10] at h9
    refine hr_aload_n hx hb dX10_mergeBegins_20 rfl (hr_at hl 0 rfl) ?_
    refine lv_iconst (v := 0) hx hb dX10_mergeBegins_21 (by decide) ?_
    obtain ⟨b13, g14, h15⟩ := hbind h9; clear h9
    obtain ⟨_, _, e16, q16⟩ := rcv_inv g14
    obtain ⟨r11, S12, g17, h18⟩ := hbn2 h15; clear h15
    refine h_callV (n := 1) (As := [.int (0 : Int32)]) (rest := []) (st1 := []) (fr := 1) (lo := 14) (mc := 0) (ms := 0) C.1 hK hV q16 rfl rfl wd891 wd888 wd890 wd61 wd83 ⟨by decide, by decide, by decide⟩ ⟨(Nat.le_of_ble_eq_true rfl), (Nat.le_of_ble_eq_true rfl)⟩ rfl hl.1 (hW_ok [] (Nat.le_of_ble_eq_true rfl)) dX10_mergeBegins_22 ⟨(Nat.le_of_ble_eq_true rfl), (Nat.le_of_ble_eq_true rfl)⟩ rfl (by rw [e16]; rfl) (mX10_rows l D fu S4 b13 (0 : Int32) _ g17) (fun H locs hV => ?_)
    refine hr_aload_n hx hb dX10_mergeBegins_25 rfl (hr_at hl 0 rfl) ?_
    obtain ⟨b21, g22, h23⟩ := hbind h18; clear h18
    obtain ⟨_, _, e24, q24⟩ := rcv_inv g22
    obtain ⟨r19, S20, g25, h26⟩ := hbn2 h23; clear h23
    refine h_callV (n := 0) (As := []) (rest := []) (st1 := [.int r19]) (fr := 2) (lo := 35) (mc := 0) (ms := 0) C.1 hK hV q24 rfl rfl wd895 wd892 wd894 wd62 wd83 ⟨by decide, by decide, by decide⟩ ⟨(Nat.le_of_ble_eq_true rfl), (Nat.le_of_ble_eq_true rfl)⟩ rfl hl.1 (hW_ok [] (Nat.le_of_ble_eq_true rfl)) dX10_mergeBegins_26 ⟨(Nat.le_of_ble_eq_true rfl), (Nat.le_of_ble_eq_true rfl)⟩ rfl (by rw [e24]; rfl) (mX10_mergeStands l D fu S12 b21 _ g25) (fun H locs hV => ?_)
    exact h_zret hx hb hr hlk hV h26 (Nat.le_of_ble_eq_true rfl) (Nat.le_of_ble_eq_true rfl) dX10_mergeBegins_29
  · rw [if_neg c10] at h9
    refine lv_iconst (v := 0) hx hb dX10_mergeBegins_18 (by decide) ?_
    exact h_zret hx hb hr hlk hV h9 (Nat.le_of_ble_eq_true rfl) (Nat.le_of_ble_eq_true rfl) dX10_mergeBegins_19
def fX10_widest_4 (fu : Nat) : Nat → hS → Nat → Int32 → Int32 → Option (Int32 × hS)
  | 0, _, _, _, _ => none
  | n + 1, S, a0, x1, x2 => (gI S 9 21 (some a0)).bind fun v1 => if v1 ≤ x2 then (some (x1, S)) else (fX10_widest_4 fu n S a0 x2 (((3 : Int32) * x2) + (1 : Int32)))
set_option maxHeartbeats 4000000 in
set_option maxRecDepth 100000 in
theorem kX10_widest_4 {p : Program} {l : Launch} {e : Env} {s : State} {m : MethodId} {args : Array Value} {below : List Frame} {meth : Method} {c : Code} {D : hD} {S0 : hS} {z : Int32 × hS} (C : hCx p m c cX10_widest 3 s args RX10 meth (some .int) D) (fu : Nat) : ∀ (n : Nat) (S : hS) (a0 : Nat) (x1 : Int32) (x2 : Int32) (H : Heap) (locs : List Loc) (ls : Array Slot), fX10_widest_4 fu n S a0 x1 x2 = some z → h_V D (h_A S0) s S H locs → hl_has ls 3 [(0, .inr (some a0)), (1, .inl x1), (2, .inl x2)] → W p l e { frames := 0, cells := 0, slots := 0, locals := 0 } s m args below meth c H locs 0 0 (MQ below (h_Q D (h_A S0) (some (.int z.1)) z.2) args s 0 0 (h_A S0)) (F0 m 4 ls []) := by
  obtain ⟨-, hx, hb, hml, hown, hr, hlk, hK, hts⟩ := id C
  intro n
  induction n with
  | zero =>
    intro S a0 x1 x2 _ _ _ h hV hl
    rw [fX10_widest_4] at h
    cases h
  | succ n ih =>
    intro S a0 x1 x2 _ _ _ h hV hl
    rw [fX10_widest_4] at h
    refine lv_iload_n hx hb dX10_widest_4 rfl (hi_at hl 2 rfl) ?_
    refine hr_aload_n hx hb dX10_widest_5 rfl (hr_at hl 0 rfl) ?_
    obtain ⟨v1, g2, h3⟩ := hbind h; clear h
    refine h_gI hx hb hown hV g2 (flRX10_122 hts hK) dX10_widest_6 ?_
    refine lv_icmp_ge (tgt := 23) hx hb dX10_widest_9 (by decide) (fun c4 => ?_) (fun c4 => ?_)
    · rw [if_pos c4] at h3
      refine lv_iload_n hx hb dX10_widest_23 rfl (hi_at hl 1 rfl) ?_
      exact h_iret hx hb hr hlk hV h3 (Nat.le_of_ble_eq_true rfl) (Nat.le_of_ble_eq_true rfl) dX10_widest_24
    · rw [if_neg c4] at h3
      refine lv_iload_n hx hb dX10_widest_12 rfl (hi_at hl 2 rfl) ?_
      refine h_istore_n (tl' := [(1, .inl x2), (0, .inr (some a0)), (2, .inl x2)]) hx hb dX10_widest_13 rfl hl (by decide) rfl (fun ls hl => ?_)
      refine lv_iconst (v := 3) hx hb dX10_widest_14 (by decide) ?_
      refine lv_iload_n hx hb dX10_widest_15 rfl (hi_at hl 2 rfl) ?_
      refine lv_imul hx hb dX10_widest_16 ?_
      refine lv_iconst (v := 1) hx hb dX10_widest_17 (by decide) ?_
      refine lv_iadd hx hb dX10_widest_18 ?_
      refine h_istore_n (tl' := [(2, .inl (((3 : Int32) * x2) + (1 : Int32))), (1, .inl x2), (0, .inr (some a0))]) hx hb dX10_widest_19 rfl hl (by decide) rfl (fun ls hl => ?_)
      refine lv_goto (tgt := 4) hx hb dX10_widest_20 (by decide) ?_
      exact ih S a0 x2 (((3 : Int32) * x2) + (1 : Int32)) _ _ _ h3 hV (hl_sub hl [2, 1, 0] rfl)
def fX10_widest (fu : Nat) (S : hS) (a0 : Nat) : Option (Int32 × hS) := fX10_widest_4 fu fu S a0 (0 : Int32) (1 : Int32)
set_option maxHeartbeats 4000000 in
set_option maxRecDepth 100000 in
theorem mX10_widest (l : Launch) (D : hD) (fu : Nat) (S : hS) (a0 : Nat) (z : Int32 × hS) (h : fX10_widest fu S a0 = some z) : hM l D yX10_widest cX10_widest 3 (some .int) 0 0 0 0 [va_rf (some a0)] S (some (.int z.1)) z.2 := by
  refine h_body [.inr (some a0)] RX10 (by decide) rfl (Nat.le_of_ble_eq_true rfl) ?_
  intro p e s m args below meth c C hin ls hV hl
  obtain ⟨-, hx, hb, hml, hown, hr, hlk, hK, hts⟩ := id C
  unfold fX10_widest at h
  refine lv_iconst (v := 0) hx hb dX10_widest_0 (by decide) ?_
  refine h_istore_n (tl' := [(1, .inl (0 : Int32)), (0, .inr (some a0))]) hx hb dX10_widest_1 rfl hl (by decide) rfl (fun ls hl => ?_)
  refine lv_iconst (v := 1) hx hb dX10_widest_2 (by decide) ?_
  refine h_istore_n (tl' := [(2, .inl (1 : Int32)), (1, .inl (0 : Int32)), (0, .inr (some a0))]) hx hb dX10_widest_3 rfl hl (by decide) rfl (fun ls hl => ?_)
  exact kX10_widest_4 C fu fu S a0 (0 : Int32) (1 : Int32) _ _ _ h hV (hl_sub hl [2, 1, 0] rfl)
def fX10_range (fu : Nat) (S : hS) (a0 : Nat) (x1 : Int32) (x2 : Int32) : Option (Int32 × hS) := (pV S 9 22 (some a0) (.int x1)).bind fun S1 => (pV S1 9 23 (some a0) (.int x2)).bind fun S4 => (pV S4 9 24 (some a0) (.int x1)).bind fun S7 => (pV S7 9 25 (some a0) (.int x1)).bind fun S10 => (rcv S10 9 (some a0)).bind fun b15 => bn2 (fX10_change fu S10 b15 ((x1 + x2) / (2 : Int32)) x2) fun _ S14 => (zz (1 : Int32)).bind (fun v => some (v, S14))
set_option maxHeartbeats 4000000 in
set_option maxRecDepth 100000 in
theorem mX10_range (l : Launch) (D : hD) (fu : Nat) (S : hS) (a0 : Nat) (x1 : Int32) (x2 : Int32) (z : Int32 × hS) (h : fX10_range fu S a0 x1 x2 = some z) : hM l D yX10_range cX10_range 3 (some .boolean) 1 23 0 0 [va_rf (some a0), .int x1, .int x2] S (some (.int z.1)) z.2 := by
  refine h_body [.inr (some a0), .inl x1, .inl x2] RX10 (by decide) rfl (Nat.le_of_ble_eq_true rfl) ?_
  intro p e s m args below meth c C hin ls hV hl
  obtain ⟨-, hx, hb, hml, hown, hr, hlk, hK, hts⟩ := id C
  unfold fX10_range at h
  refine hr_aload_n hx hb dX10_range_0 rfl (hr_at hl 0 rfl) ?_
  refine lv_iload_n hx hb dX10_range_1 rfl (hi_at hl 1 rfl) ?_
  obtain ⟨S1, g2, h3⟩ := hbind h; clear h
  refine h_put hx hb hown hV g2 (fpRX10_125 hts hK) rfl rfl dX10_range_2 (fun H locs hV => ?_)
  refine hr_aload_n hx hb dX10_range_5 rfl (hr_at hl 0 rfl) ?_
  refine lv_iload_n hx hb dX10_range_6 rfl (hi_at hl 2 rfl) ?_
  obtain ⟨S4, g5, h6⟩ := hbind h3; clear h3
  refine h_put hx hb hown hV g5 (fpRX10_128 hts hK) rfl rfl dX10_range_7 (fun H locs hV => ?_)
  refine hr_aload_n hx hb dX10_range_10 rfl (hr_at hl 0 rfl) ?_
  refine lv_iload_n hx hb dX10_range_11 rfl (hi_at hl 1 rfl) ?_
  obtain ⟨S7, g8, h9⟩ := hbind h6; clear h6
  refine h_put hx hb hown hV g8 (fpRX10_131 hts hK) rfl rfl dX10_range_12 (fun H locs hV => ?_)
  refine hr_aload_n hx hb dX10_range_15 rfl (hr_at hl 0 rfl) ?_
  refine lv_iload_n hx hb dX10_range_16 rfl (hi_at hl 1 rfl) ?_
  obtain ⟨S10, g11, h12⟩ := hbind h9; clear h9
  refine h_put hx hb hown hV g11 (fpRX10_134 hts hK) rfl rfl dX10_range_17 (fun H locs hV => ?_)
  refine hr_aload_n hx hb dX10_range_20 rfl (hr_at hl 0 rfl) ?_
  refine lv_iload_n hx hb dX10_range_21 rfl (hi_at hl 1 rfl) ?_
  refine lv_iload_n hx hb dX10_range_22 rfl (hi_at hl 2 rfl) ?_
  refine lv_iadd hx hb dX10_range_23 ?_
  refine lv_iconst (v := 2) hx hb dX10_range_24 (by decide) ?_
  refine lv_idiv hx hb dX10_range_25 (by decide) ?_
  refine lv_iload_n hx hb dX10_range_26 rfl (hi_at hl 2 rfl) ?_
  obtain ⟨b15, g16, h17⟩ := hbind h12; clear h12
  obtain ⟨_, _, e18, q18⟩ := rcv_inv g16
  obtain ⟨r13, S14, g19, h20⟩ := hbn2 h17; clear h17
  refine h_callV (n := 2) (As := [.int ((x1 + x2) / (2 : Int32)), .int x2]) (rest := []) (st1 := []) (fr := 0) (lo := 0) (mc := 0) (ms := 0) C.1 hK hV q18 rfl rfl wd879 wd876 wd878 wd58 wd83 ⟨by decide, by decide, by decide⟩ ⟨(Nat.le_of_ble_eq_true rfl), (Nat.le_of_ble_eq_true rfl)⟩ rfl hl.1 (hW_ok [] (Nat.le_of_ble_eq_true rfl)) dX10_range_27 ⟨(Nat.le_of_ble_eq_true rfl), (Nat.le_of_ble_eq_true rfl)⟩ rfl (by rw [e18]; rfl) (mX10_change l D fu S10 b15 ((x1 + x2) / (2 : Int32)) x2 _ g19) (fun H locs hV => ?_)
  refine lv_iconst (v := 1) hx hb dX10_range_30 (by decide) ?_
  exact h_zret hx hb hr hlk hV h20 (Nat.le_of_ble_eq_true rfl) (Nat.le_of_ble_eq_true rfl) dX10_range_31
def fX10_begins_54 (fu : Nat) (S : hS) (t0 : Option Nat) (t1 : Int32) : Option (Int32 × hS) := (rcv S 9 t0).bind fun b3 => bn2 (fX10_stepsBegin fu S b3 t1) fun r1 S2 => (zz r1).bind (fun v => some (v, S2))
set_option maxHeartbeats 4000000 in
set_option maxRecDepth 100000 in
theorem kX10_begins_54 {p : Program} {l : Launch} {e : Env} {s : State} {m : MethodId} {args : Array Value} {below : List Frame} {meth : Method} {c : Code} {D : hD} {S0 : hS} {z : Int32 × hS} (C : hCx p m c cX10_begins 1 s args RX10 meth (some .boolean) D) (fu : Nat) : ∀ (S : hS) (t0 : Option Nat) (t1 : Int32) (H : Heap) (locs : List Loc) (ls : Array Slot), fX10_begins_54 fu S t0 t1 = some z → h_V D (h_A S0) s S H locs → hl_has ls 1 [] → W p l e { frames := 4, cells := 0, slots := 0, locals := 76 } s m args below meth c H locs 0 0 (MQ below (h_Q D (h_A S0) (some (.int z.1)) z.2) args s 0 0 (h_A S0)) (F0 m 54 ls [.int t1, va_rf t0]) := by
  obtain ⟨-, hx, hb, hml, hown, hr, hlk, hK, hts⟩ := id C
  intro S t0 t1 _ _ _ h hV hl
  unfold fX10_begins_54 at h
  obtain ⟨b3, g4, h5⟩ := hbind h; clear h
  obtain ⟨_, _, e6, q6⟩ := rcv_inv g4
  obtain ⟨r1, S2, g7, h8⟩ := hbn2 h5; clear h5
  refine h_callV (n := 1) (As := [.int t1]) (rest := []) (st1 := [.int r1]) (fr := 1) (lo := 20) (mc := 0) (ms := 0) C.1 hK hV q6 rfl rfl wd863 wd860 wd862 wd54 wd83 ⟨by decide, by decide, by decide⟩ ⟨(Nat.le_of_ble_eq_true rfl), (Nat.le_of_ble_eq_true rfl)⟩ rfl hl.1 (hW_ok [] (Nat.le_of_ble_eq_true rfl)) dX10_begins_54 ⟨(Nat.le_of_ble_eq_true rfl), (Nat.le_of_ble_eq_true rfl)⟩ rfl (by rw [e6]; rfl) (mX10_stepsBegin l D fu S b3 t1 _ g7) (fun H locs hV => ?_)
  exact h_zret hx hb hr hlk hV h8 (Nat.le_of_ble_eq_true rfl) (Nat.le_of_ble_eq_true rfl) dX10_begins_57
def fX10_begins (fu : Nat) (S : hS) (a0 : Nat) : Option (Int32 × hS) := (gR S 9 6 (some a0)).bind fun v1 => (gI S 9 20 (some a0)).bind fun v4 => (aI S 10 v1 v4).bind fun v7 => if v7 = 0 then ((gI S 9 21 (some a0)).bind fun v11 =>
if v11 ≤ (1 : Int32) then (fX10_begins_54 fu S (some a0) (0 : Int32)) else (fX10_begins_54 fu S (some a0) (1 : Int32))) else if v7 = 1 then ((rcv S 9 (some a0)).bind fun b18 =>
bn2 (fX10_heapBegins fu S b18) fun r16 S17 =>
(zz r16).bind (fun v => some (v, S17))) else if v7 = 2 then ((rcv S 9 (some a0)).bind fun b27 =>
bn2 (fX10_mergeBegins fu S b27) fun r25 S26 =>
(zz r25).bind (fun v => some (v, S26))) else if v7 = 3 then ((rcv S 9 (some a0)).bind fun b36 =>
bn2 (fX10_widest fu S b36) fun r34 S35 =>
(rcv S35 9 (some a0)).bind fun b44 =>
bn2 (fX10_stepsBegin fu S35 b44 r34) fun r42 S43 =>
(zz r42).bind (fun v => some (v, S43))) else ((pV S 9 30 (some a0) (.int (0 : Int32))).bind fun S50 =>
(gI S50 9 21 (some a0)).bind fun v53 =>
if v53 ≤ (1 : Int32) then ((zz (0 : Int32)).bind (fun v => some (v, S50))) else ((gI S50 9 21 (some a0)).bind fun v57 =>
(rcv S50 9 (some a0)).bind fun b62 =>
bn2 (fX10_range fu S50 b62 (0 : Int32) (v57 - (1 : Int32))) fun r60 S61 =>
if r60 = 0 then ((zz (0 : Int32)).bind (fun v => some (v, S61))) else ((zz (1 : Int32)).bind (fun v => some (v, S61)))))
set_option maxHeartbeats 4000000 in
set_option maxRecDepth 100000 in
theorem mX10_begins (l : Launch) (D : hD) (fu : Nat) (S : hS) (a0 : Nat) (z : Int32 × hS) (h : fX10_begins fu S a0 = some z) : hM l D yX10_begins cX10_begins 1 (some .boolean) 4 76 0 0 [va_rf (some a0)] S (some (.int z.1)) z.2 := by
  refine h_body [.inr (some a0)] RX10 (by decide) rfl (Nat.le_of_ble_eq_true rfl) ?_
  intro p e s m args below meth c C hin ls hV hl
  obtain ⟨-, hx, hb, hml, hown, hr, hlk, hK, hts⟩ := id C
  unfold fX10_begins at h
  refine hr_aload_n hx hb dX10_begins_0 rfl (hr_at hl 0 rfl) ?_
  obtain ⟨v1, g2, h3⟩ := hbind h; clear h
  refine h_gR hx hb hown hV g2 (flRX10_16 hts hK) dX10_begins_1 ?_
  refine hr_aload_n hx hb dX10_begins_4 rfl (hr_at hl 0 rfl) ?_
  obtain ⟨v4, g5, h6⟩ := hbind h3; clear h3
  refine h_gI hx hb hown hV g5 (flRX10_119 hts hK) dX10_begins_5 ?_
  obtain ⟨v7, g8, h9⟩ := hbind h6; clear h6
  refine h_iald hx hb hK hV g8 dX10_begins_8 ?_
  by_cases c10 : v7 = 0
  · rw [if_pos c10] at h9
    refine lv_tableIn (off := 31) (tgt := 40) hx hb dX10_begins_9 (by rw [c10]; decide) (by rw [c10]; decide) (by rw [c10]; rfl) (by decide) ?_
    refine hr_aload_n hx hb dX10_begins_40 rfl (hr_at hl 0 rfl) ?_
    refine hr_aload_n hx hb dX10_begins_41 rfl (hr_at hl 0 rfl) ?_
    obtain ⟨v11, g12, h13⟩ := hbind h9; clear h9
    refine h_gI hx hb hown hV g12 (flRX10_122 hts hK) dX10_begins_42 ?_
    refine lv_iconst (v := 1) hx hb dX10_begins_45 (by decide) ?_
    refine lv_icmp_le (tgt := 53) hx hb dX10_begins_46 (by decide) (fun c14 => ?_) (fun c14 => ?_)
    · rw [if_pos c14] at h13
      refine lv_iconst (v := 0) hx hb dX10_begins_53 (by decide) ?_
      exact kX10_begins_54 C fu S (some a0) (0 : Int32) _ _ _ h13 hV (hl_sub hl [] rfl)
    · rw [if_neg c14] at h13
      refine lv_iconst (v := 1) hx hb dX10_begins_49 (by decide) ?_
      refine lv_goto (tgt := 54) hx hb dX10_begins_50 (by decide) ?_
      exact kX10_begins_54 C fu S (some a0) (1 : Int32) _ _ _ h13 hV (hl_sub hl [] rfl)
  · rw [if_neg c10] at h9
    by_cases c15 : v7 = 1
    · rw [if_pos c15] at h9
      refine lv_tableIn (off := 49) (tgt := 58) hx hb dX10_begins_9 (by rw [c15]; decide) (by rw [c15]; decide) (by rw [c15]; rfl) (by decide) ?_
      refine hr_aload_n hx hb dX10_begins_58 rfl (hr_at hl 0 rfl) ?_
      obtain ⟨b18, g19, h20⟩ := hbind h9; clear h9
      obtain ⟨_, _, e21, q21⟩ := rcv_inv g19
      obtain ⟨r16, S17, g22, h23⟩ := hbn2 h20; clear h20
      refine h_callV (n := 0) (As := []) (rest := []) (st1 := [.int r16]) (fr := 2) (lo := 43) (mc := 0) (ms := 0) C.1 hK hV q21 rfl rfl wd871 wd868 wd870 wd56 wd83 ⟨by decide, by decide, by decide⟩ ⟨(Nat.le_of_ble_eq_true rfl), (Nat.le_of_ble_eq_true rfl)⟩ rfl hl.1 (hW_ok [] (Nat.le_of_ble_eq_true rfl)) dX10_begins_59 ⟨(Nat.le_of_ble_eq_true rfl), (Nat.le_of_ble_eq_true rfl)⟩ rfl (by rw [e21]; rfl) (mX10_heapBegins l D fu S b18 _ g22) (fun H locs hV => ?_)
      exact h_zret hx hb hr hlk hV h23 (Nat.le_of_ble_eq_true rfl) (Nat.le_of_ble_eq_true rfl) dX10_begins_62
    · rw [if_neg c15] at h9
      by_cases c24 : v7 = 2
      · rw [if_pos c24] at h9
        refine lv_tableIn (off := 54) (tgt := 63) hx hb dX10_begins_9 (by rw [c24]; decide) (by rw [c24]; decide) (by rw [c24]; rfl) (by decide) ?_
        refine hr_aload_n hx hb dX10_begins_63 rfl (hr_at hl 0 rfl) ?_
        obtain ⟨b27, g28, h29⟩ := hbind h9; clear h9
        obtain ⟨_, _, e30, q30⟩ := rcv_inv g28
        obtain ⟨r25, S26, g31, h32⟩ := hbn2 h29; clear h29
        refine h_callV (n := 0) (As := []) (rest := []) (st1 := [.int r25]) (fr := 3) (lo := 56) (mc := 0) (ms := 0) C.1 hK hV q30 rfl rfl wd887 wd884 wd886 wd60 wd83 ⟨by decide, by decide, by decide⟩ ⟨(Nat.le_of_ble_eq_true rfl), (Nat.le_of_ble_eq_true rfl)⟩ rfl hl.1 (hW_ok [] (Nat.le_of_ble_eq_true rfl)) dX10_begins_64 ⟨(Nat.le_of_ble_eq_true rfl), (Nat.le_of_ble_eq_true rfl)⟩ rfl (by rw [e30]; rfl) (mX10_mergeBegins l D fu S b27 _ g31) (fun H locs hV => ?_)
        exact h_zret hx hb hr hlk hV h32 (Nat.le_of_ble_eq_true rfl) (Nat.le_of_ble_eq_true rfl) dX10_begins_67
      · rw [if_neg c24] at h9
        by_cases c33 : v7 = 3
        · rw [if_pos c33] at h9
          refine lv_tableIn (off := 59) (tgt := 68) hx hb dX10_begins_9 (by rw [c33]; decide) (by rw [c33]; decide) (by rw [c33]; rfl) (by decide) ?_
          refine hr_aload_n hx hb dX10_begins_68 rfl (hr_at hl 0 rfl) ?_
          refine hr_aload_n hx hb dX10_begins_69 rfl (hr_at hl 0 rfl) ?_
          obtain ⟨b36, g37, h38⟩ := hbind h9; clear h9
          obtain ⟨_, _, e39, q39⟩ := rcv_inv g37
          obtain ⟨r34, S35, g40, h41⟩ := hbn2 h38; clear h38
          refine h_callV (n := 0) (As := []) (rest := [va_rf (some a0)]) (st1 := [.int r34, va_rf (some a0)]) (fr := 0) (lo := 0) (mc := 0) (ms := 0) C.1 hK hV q39 rfl rfl wd907 wd904 wd906 wd65 wd83 ⟨by decide, by decide, by decide⟩ ⟨(Nat.le_of_ble_eq_true rfl), (Nat.le_of_ble_eq_true rfl)⟩ rfl hl.1 (hW_ok [.inr (some a0)] (Nat.le_of_ble_eq_true rfl)) dX10_begins_70 ⟨(Nat.le_of_ble_eq_true rfl), (Nat.le_of_ble_eq_true rfl)⟩ rfl (by rw [e39]; rfl) (mX10_widest l D fu S b36 _ g40) (fun H locs hV => ?_)
          obtain ⟨b44, g45, h46⟩ := hbind h41; clear h41
          obtain ⟨_, _, e47, q47⟩ := rcv_inv g45
          obtain ⟨r42, S43, g48, h49⟩ := hbn2 h46; clear h46
          refine h_callV (n := 1) (As := [.int r34]) (rest := []) (st1 := [.int r42]) (fr := 1) (lo := 20) (mc := 0) (ms := 0) C.1 hK hV q47 rfl rfl wd863 wd860 wd862 wd54 wd83 ⟨by decide, by decide, by decide⟩ ⟨(Nat.le_of_ble_eq_true rfl), (Nat.le_of_ble_eq_true rfl)⟩ rfl hl.1 (hW_ok [] (Nat.le_of_ble_eq_true rfl)) dX10_begins_73 ⟨(Nat.le_of_ble_eq_true rfl), (Nat.le_of_ble_eq_true rfl)⟩ rfl (by rw [e47]; rfl) (mX10_stepsBegin l D fu S35 b44 r34 _ g48) (fun H locs hV => ?_)
          exact h_zret hx hb hr hlk hV h49 (Nat.le_of_ble_eq_true rfl) (Nat.le_of_ble_eq_true rfl) dX10_begins_76
        · rw [if_neg c33] at h9
          have ec10 : (v7).toInt ≠ 0 := h_tinj (k := 0) c10
          have ec15 : (v7).toInt ≠ 1 := h_tinj (k := 1) c15
          have ec24 : (v7).toInt ≠ 2 := h_tinj (k := 2) c24
          have ec33 : (v7).toInt ≠ 3 := h_tinj (k := 3) c33
          refine lv_tableOut (tgt := 77) hx hb dX10_begins_9 (by omega) (by decide) ?_
          refine hr_aload_n hx hb dX10_begins_77 rfl (hr_at hl 0 rfl) ?_
          refine lv_iconst (v := 0) hx hb dX10_begins_78 (by decide) ?_
          obtain ⟨S50, g51, h52⟩ := hbind h9; clear h9
          refine h_put hx hb hown hV g51 (fpRX10_149 hts hK) rfl rfl dX10_begins_79 (fun H locs hV => ?_)
          refine hr_aload_n hx hb dX10_begins_82 rfl (hr_at hl 0 rfl) ?_
          obtain ⟨v53, g54, h55⟩ := hbind h52; clear h52
          refine h_gI hx hb hown hV g54 (flRX10_122 hts hK) dX10_begins_83 ?_
          refine lv_iconst (v := 1) hx hb dX10_begins_86 (by decide) ?_
          refine lv_icmp_le (tgt := 108) hx hb dX10_begins_87 (by decide) (fun c56 => ?_) (fun c56 => ?_)
          · rw [if_pos c56] at h55
            refine lv_iconst (v := 0) hx hb dX10_begins_108 (by decide) ?_
            exact h_zret hx hb hr hlk hV h55 (Nat.le_of_ble_eq_true rfl) (Nat.le_of_ble_eq_true rfl) dX10_begins_109
          · rw [if_neg c56] at h55
            refine hr_aload_n hx hb dX10_begins_90 rfl (hr_at hl 0 rfl) ?_
            refine lv_iconst (v := 0) hx hb dX10_begins_91 (by decide) ?_
            refine hr_aload_n hx hb dX10_begins_92 rfl (hr_at hl 0 rfl) ?_
            obtain ⟨v57, g58, h59⟩ := hbind h55; clear h55
            refine h_gI hx hb hown hV g58 (flRX10_122 hts hK) dX10_begins_93 ?_
            refine lv_iconst (v := 1) hx hb dX10_begins_96 (by decide) ?_
            refine lv_isub hx hb dX10_begins_97 ?_
            obtain ⟨b62, g63, h64⟩ := hbind h59; clear h59
            obtain ⟨_, _, e65, q65⟩ := rcv_inv g63
            obtain ⟨r60, S61, g66, h67⟩ := hbn2 h64; clear h64
            refine h_callV (n := 2) (As := [.int (0 : Int32), .int (v57 - (1 : Int32))]) (rest := []) (st1 := [.int r60]) (fr := 1) (lo := 23) (mc := 0) (ms := 0) C.1 hK hV q65 rfl rfl wd911 wd908 wd910 wd66 wd83 ⟨by decide, by decide, by decide⟩ ⟨(Nat.le_of_ble_eq_true rfl), (Nat.le_of_ble_eq_true rfl)⟩ rfl hl.1 (hW_ok [] (Nat.le_of_ble_eq_true rfl)) dX10_begins_98 ⟨(Nat.le_of_ble_eq_true rfl), (Nat.le_of_ble_eq_true rfl)⟩ rfl (by rw [e65]; rfl) (mX10_range l D fu S50 b62 (0 : Int32) (v57 - (1 : Int32)) _ g66) (fun H locs hV => ?_)
            refine lv_if_eq (tgt := 108) hx hb dX10_begins_101 (by decide) (fun c68 => ?_) (fun c68 => ?_)
            · rw [if_pos c68] at h67
              refine lv_iconst (v := 0) hx hb dX10_begins_108 (by decide) ?_
              exact h_zret hx hb hr hlk hV h67 (Nat.le_of_ble_eq_true rfl) (Nat.le_of_ble_eq_true rfl) dX10_begins_109
            · rw [if_neg c68] at h67
              refine lv_iconst (v := 1) hx hb dX10_begins_104 (by decide) ?_
              refine lv_goto (tgt := 109) hx hb dX10_begins_105 (by decide) ?_
              exact h_zret hx hb hr hlk hV h67 (Nat.le_of_ble_eq_true rfl) (Nat.le_of_ble_eq_true rfl) dX10_begins_109
def fX10_putsBy (fu : Nat) (S : hS) (a0 : Nat) : Option (Unit × hS) := (gI S 9 20 (some a0)).bind fun v1 => (gR S 9 19 (some a0)).bind fun v4 => (gI S 9 22 (some a0)).bind fun v7 => (sV S 10 v4 ((10 : Int32) * v1) (.int v7)).bind fun S10 => (gR S10 9 19 (some a0)).bind fun v13 => (gI S10 9 23 (some a0)).bind fun v16 => (sV S10 10 v13 (((10 : Int32) * v1) + (1 : Int32)) (.int v16)).bind fun S19 => (gR S19 9 19 (some a0)).bind fun v22 => (gI S19 9 24 (some a0)).bind fun v25 => (sV S19 10 v22 (((10 : Int32) * v1) + (2 : Int32)) (.int v25)).bind fun S28 => (gR S28 9 19 (some a0)).bind fun v31 => (gI S28 9 25 (some a0)).bind fun v34 => (sV S28 10 v31 (((10 : Int32) * v1) + (3 : Int32)) (.int v34)).bind fun S37 => (gR S37 9 19 (some a0)).bind fun v40 => (gI S37 9 26 (some a0)).bind fun v43 => (sV S37 10 v40 (((10 : Int32) * v1) + (4 : Int32)) (.int v43)).bind fun S46 => (gR S46 9 19 (some a0)).bind fun v49 => (gI S46 9 27 (some a0)).bind fun v52 => (sV S46 10 v49 (((10 : Int32) * v1) + (5 : Int32)) (.int v52)).bind fun S55 => (gR S55 9 19 (some a0)).bind fun v58 => (gI S55 9 28 (some a0)).bind fun v61 => (sV S55 10 v58 (((10 : Int32) * v1) + (6 : Int32)) (.int v61)).bind fun S64 => (gR S64 9 19 (some a0)).bind fun v67 => (gI S64 9 29 (some a0)).bind fun v70 => (sV S64 10 v67 (((10 : Int32) * v1) + (7 : Int32)) (.int v70)).bind fun S73 => (gR S73 9 19 (some a0)).bind fun v76 => (gI S73 9 30 (some a0)).bind fun v79 => (sV S73 10 v76 (((10 : Int32) * v1) + (8 : Int32)) (.int v79)).bind fun S82 => (gR S82 9 19 (some a0)).bind fun v85 => (gI S82 9 31 (some a0)).bind fun v88 => (sV S82 10 v85 (((10 : Int32) * v1) + (9 : Int32)) (.int v88)).bind fun S91 => some ((), S91)
set_option maxHeartbeats 4000000 in
set_option maxRecDepth 100000 in
theorem mX10_putsBy (l : Launch) (D : hD) (fu : Nat) (S : hS) (a0 : Nat) (z : Unit × hS) (h : fX10_putsBy fu S a0 = some z) : hM l D yX10_putsBy cX10_putsBy 2 none 0 0 0 0 [va_rf (some a0)] S none z.2 := by
  refine h_body [.inr (some a0)] RX10 (by decide) rfl (Nat.le_of_ble_eq_true rfl) ?_
  intro p e s m args below meth c C hin ls hV hl
  obtain ⟨-, hx, hb, hml, hown, hr, hlk, hK, hts⟩ := id C
  unfold fX10_putsBy at h
  refine lv_bipush (v := 10) hx hb dX10_putsBy_0 (by decide) ?_
  refine hr_aload_n hx hb dX10_putsBy_2 rfl (hr_at hl 0 rfl) ?_
  obtain ⟨v1, g2, h3⟩ := hbind h; clear h
  refine h_gI hx hb hown hV g2 (flRX10_119 hts hK) dX10_putsBy_3 ?_
  refine lv_imul hx hb dX10_putsBy_6 ?_
  refine h_istore_n (tl' := [(1, .inl ((10 : Int32) * v1)), (0, .inr (some a0))]) hx hb dX10_putsBy_7 rfl hl (by decide) rfl (fun ls hl => ?_)
  refine hr_aload_n hx hb dX10_putsBy_8 rfl (hr_at hl 1 rfl) ?_
  obtain ⟨v4, g5, h6⟩ := hbind h3; clear h3
  refine h_gR hx hb hown hV g5 (flRX10_47 hts hK) dX10_putsBy_9 ?_
  refine lv_iload_n hx hb dX10_putsBy_12 rfl (hi_at hl 0 rfl) ?_
  refine hr_aload_n hx hb dX10_putsBy_13 rfl (hr_at hl 1 rfl) ?_
  obtain ⟨v7, g8, h9⟩ := hbind h6; clear h6
  refine h_gI hx hb hown hV g8 (flRX10_125 hts hK) dX10_putsBy_14 ?_
  obtain ⟨S10, g11, h12⟩ := hbind h9; clear h9
  refine h_iast hx hb hK hV g11 dX10_putsBy_17 (fun H locs hV => ?_)
  refine hr_aload_n hx hb dX10_putsBy_18 rfl (hr_at hl 1 rfl) ?_
  obtain ⟨v13, g14, h15⟩ := hbind h12; clear h12
  refine h_gR hx hb hown hV g14 (flRX10_47 hts hK) dX10_putsBy_19 ?_
  refine lv_iload_n hx hb dX10_putsBy_22 rfl (hi_at hl 0 rfl) ?_
  refine lv_iconst (v := 1) hx hb dX10_putsBy_23 (by decide) ?_
  refine lv_iadd hx hb dX10_putsBy_24 ?_
  refine hr_aload_n hx hb dX10_putsBy_25 rfl (hr_at hl 1 rfl) ?_
  obtain ⟨v16, g17, h18⟩ := hbind h15; clear h15
  refine h_gI hx hb hown hV g17 (flRX10_128 hts hK) dX10_putsBy_26 ?_
  obtain ⟨S19, g20, h21⟩ := hbind h18; clear h18
  refine h_iast hx hb hK hV g20 dX10_putsBy_29 (fun H locs hV => ?_)
  refine hr_aload_n hx hb dX10_putsBy_30 rfl (hr_at hl 1 rfl) ?_
  obtain ⟨v22, g23, h24⟩ := hbind h21; clear h21
  refine h_gR hx hb hown hV g23 (flRX10_47 hts hK) dX10_putsBy_31 ?_
  refine lv_iload_n hx hb dX10_putsBy_34 rfl (hi_at hl 0 rfl) ?_
  refine lv_iconst (v := 2) hx hb dX10_putsBy_35 (by decide) ?_
  refine lv_iadd hx hb dX10_putsBy_36 ?_
  refine hr_aload_n hx hb dX10_putsBy_37 rfl (hr_at hl 1 rfl) ?_
  obtain ⟨v25, g26, h27⟩ := hbind h24; clear h24
  refine h_gI hx hb hown hV g26 (flRX10_131 hts hK) dX10_putsBy_38 ?_
  obtain ⟨S28, g29, h30⟩ := hbind h27; clear h27
  refine h_iast hx hb hK hV g29 dX10_putsBy_41 (fun H locs hV => ?_)
  refine hr_aload_n hx hb dX10_putsBy_42 rfl (hr_at hl 1 rfl) ?_
  obtain ⟨v31, g32, h33⟩ := hbind h30; clear h30
  refine h_gR hx hb hown hV g32 (flRX10_47 hts hK) dX10_putsBy_43 ?_
  refine lv_iload_n hx hb dX10_putsBy_46 rfl (hi_at hl 0 rfl) ?_
  refine lv_iconst (v := 3) hx hb dX10_putsBy_47 (by decide) ?_
  refine lv_iadd hx hb dX10_putsBy_48 ?_
  refine hr_aload_n hx hb dX10_putsBy_49 rfl (hr_at hl 1 rfl) ?_
  obtain ⟨v34, g35, h36⟩ := hbind h33; clear h33
  refine h_gI hx hb hown hV g35 (flRX10_134 hts hK) dX10_putsBy_50 ?_
  obtain ⟨S37, g38, h39⟩ := hbind h36; clear h36
  refine h_iast hx hb hK hV g38 dX10_putsBy_53 (fun H locs hV => ?_)
  refine hr_aload_n hx hb dX10_putsBy_54 rfl (hr_at hl 1 rfl) ?_
  obtain ⟨v40, g41, h42⟩ := hbind h39; clear h39
  refine h_gR hx hb hown hV g41 (flRX10_47 hts hK) dX10_putsBy_55 ?_
  refine lv_iload_n hx hb dX10_putsBy_58 rfl (hi_at hl 0 rfl) ?_
  refine lv_iconst (v := 4) hx hb dX10_putsBy_59 (by decide) ?_
  refine lv_iadd hx hb dX10_putsBy_60 ?_
  refine hr_aload_n hx hb dX10_putsBy_61 rfl (hr_at hl 1 rfl) ?_
  obtain ⟨v43, g44, h45⟩ := hbind h42; clear h42
  refine h_gI hx hb hown hV g44 (flRX10_137 hts hK) dX10_putsBy_62 ?_
  obtain ⟨S46, g47, h48⟩ := hbind h45; clear h45
  refine h_iast hx hb hK hV g47 dX10_putsBy_65 (fun H locs hV => ?_)
  refine hr_aload_n hx hb dX10_putsBy_66 rfl (hr_at hl 1 rfl) ?_
  obtain ⟨v49, g50, h51⟩ := hbind h48; clear h48
  refine h_gR hx hb hown hV g50 (flRX10_47 hts hK) dX10_putsBy_67 ?_
  refine lv_iload_n hx hb dX10_putsBy_70 rfl (hi_at hl 0 rfl) ?_
  refine lv_iconst (v := 5) hx hb dX10_putsBy_71 (by decide) ?_
  refine lv_iadd hx hb dX10_putsBy_72 ?_
  refine hr_aload_n hx hb dX10_putsBy_73 rfl (hr_at hl 1 rfl) ?_
  obtain ⟨v52, g53, h54⟩ := hbind h51; clear h51
  refine h_gI hx hb hown hV g53 (flRX10_140 hts hK) dX10_putsBy_74 ?_
  obtain ⟨S55, g56, h57⟩ := hbind h54; clear h54
  refine h_iast hx hb hK hV g56 dX10_putsBy_77 (fun H locs hV => ?_)
  refine hr_aload_n hx hb dX10_putsBy_78 rfl (hr_at hl 1 rfl) ?_
  obtain ⟨v58, g59, h60⟩ := hbind h57; clear h57
  refine h_gR hx hb hown hV g59 (flRX10_47 hts hK) dX10_putsBy_79 ?_
  refine lv_iload_n hx hb dX10_putsBy_82 rfl (hi_at hl 0 rfl) ?_
  refine lv_bipush (v := 6) hx hb dX10_putsBy_83 (by decide) ?_
  refine lv_iadd hx hb dX10_putsBy_85 ?_
  refine hr_aload_n hx hb dX10_putsBy_86 rfl (hr_at hl 1 rfl) ?_
  obtain ⟨v61, g62, h63⟩ := hbind h60; clear h60
  refine h_gI hx hb hown hV g62 (flRX10_143 hts hK) dX10_putsBy_87 ?_
  obtain ⟨S64, g65, h66⟩ := hbind h63; clear h63
  refine h_iast hx hb hK hV g65 dX10_putsBy_90 (fun H locs hV => ?_)
  refine hr_aload_n hx hb dX10_putsBy_91 rfl (hr_at hl 1 rfl) ?_
  obtain ⟨v67, g68, h69⟩ := hbind h66; clear h66
  refine h_gR hx hb hown hV g68 (flRX10_47 hts hK) dX10_putsBy_92 ?_
  refine lv_iload_n hx hb dX10_putsBy_95 rfl (hi_at hl 0 rfl) ?_
  refine lv_bipush (v := 7) hx hb dX10_putsBy_96 (by decide) ?_
  refine lv_iadd hx hb dX10_putsBy_98 ?_
  refine hr_aload_n hx hb dX10_putsBy_99 rfl (hr_at hl 1 rfl) ?_
  obtain ⟨v70, g71, h72⟩ := hbind h69; clear h69
  refine h_gI hx hb hown hV g71 (flRX10_146 hts hK) dX10_putsBy_100 ?_
  obtain ⟨S73, g74, h75⟩ := hbind h72; clear h72
  refine h_iast hx hb hK hV g74 dX10_putsBy_103 (fun H locs hV => ?_)
  refine hr_aload_n hx hb dX10_putsBy_104 rfl (hr_at hl 1 rfl) ?_
  obtain ⟨v76, g77, h78⟩ := hbind h75; clear h75
  refine h_gR hx hb hown hV g77 (flRX10_47 hts hK) dX10_putsBy_105 ?_
  refine lv_iload_n hx hb dX10_putsBy_108 rfl (hi_at hl 0 rfl) ?_
  refine lv_bipush (v := 8) hx hb dX10_putsBy_109 (by decide) ?_
  refine lv_iadd hx hb dX10_putsBy_111 ?_
  refine hr_aload_n hx hb dX10_putsBy_112 rfl (hr_at hl 1 rfl) ?_
  obtain ⟨v79, g80, h81⟩ := hbind h78; clear h78
  refine h_gI hx hb hown hV g80 (flRX10_149 hts hK) dX10_putsBy_113 ?_
  obtain ⟨S82, g83, h84⟩ := hbind h81; clear h81
  refine h_iast hx hb hK hV g83 dX10_putsBy_116 (fun H locs hV => ?_)
  refine hr_aload_n hx hb dX10_putsBy_117 rfl (hr_at hl 1 rfl) ?_
  obtain ⟨v85, g86, h87⟩ := hbind h84; clear h84
  refine h_gR hx hb hown hV g86 (flRX10_47 hts hK) dX10_putsBy_118 ?_
  refine lv_iload_n hx hb dX10_putsBy_121 rfl (hi_at hl 0 rfl) ?_
  refine lv_bipush (v := 9) hx hb dX10_putsBy_122 (by decide) ?_
  refine lv_iadd hx hb dX10_putsBy_124 ?_
  refine hr_aload_n hx hb dX10_putsBy_125 rfl (hr_at hl 1 rfl) ?_
  obtain ⟨v88, g89, h90⟩ := hbind h87; clear h87
  refine h_gI hx hb hown hV g89 (flRX10_152 hts hK) dX10_putsBy_126 ?_
  obtain ⟨S91, g92, h93⟩ := hbind h90; clear h90
  refine h_iast hx hb hK hV g92 dX10_putsBy_129 (fun H locs hV => ?_)
  exact h_vret hx hb hr hlk hV h93 (Nat.le_of_ble_eq_true rfl) (Nat.le_of_ble_eq_true rfl) dX10_putsBy_130
