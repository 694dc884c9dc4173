def fX10_goesOn_40 (fu : Nat) (S : hS) (a0 : Nat) : Option (Int32 × hS) := (rcv S 9 (some a0)).bind fun b3 => bn2 (fX10_stepsGo fu S b3) fun r1 S2 => (zz r1).bind (fun v => some (v, S2))
set_option maxHeartbeats 4000000 in
set_option maxRecDepth 100000 in
theorem kX10_goesOn_40 {p : Program} {l : Launch} {e : Env} {s : State} {m : MethodId} {args : Array Value} {below : List Frame} {meth : Method} {c : Code} {D : hD} {S0 : hS} {z : Int32 × hS} (C : hCx p m c cX10_goesOn 1 s args RX10 meth (some .boolean) D) (fu : Nat) : ∀ (S : hS) (a0 : Nat) (H : Heap) (locs : List Loc) (ls : Array Slot), fX10_goesOn_40 fu S a0 = some z → h_V D (h_A S0) s S H locs → hl_has ls 1 [(0, .inr (some a0))] → W p l e { frames := 4, cells := 0, slots := 0, locals := 76 } s m args below meth c H locs 0 0 (MQ below (h_Q D (h_A S0) (some (.int z.1)) z.2) args s 0 0 (h_A S0)) (F0 m 40 ls []) := by
  obtain ⟨-, hx, hb, hml, hown, hr, hlk, hK, hts⟩ := id C
  intro S a0 _ _ _ h hV hl
  unfold fX10_goesOn_40 at h
  refine hr_aload_n hx hb dX10_goesOn_40 rfl (hr_at hl 0 rfl) ?_
  obtain ⟨b3, g4, h5⟩ := hbind h; clear h
  obtain ⟨_, _, e6, q6⟩ := rcv_inv g4
  obtain ⟨r1, S2, g7, h8⟩ := hbn2 h5; clear h5
  refine h_callV (n := 0) (As := []) (rest := []) (st1 := [.int r1]) (fr := 1) (lo := 23) (mc := 0) (ms := 0) C.1 hK hV q6 rfl rfl wd947 wd944 wd946 wd70 wd83 ⟨by decide, by decide, by decide⟩ ⟨(Nat.le_of_ble_eq_true rfl), (Nat.le_of_ble_eq_true rfl)⟩ rfl hl.1 (hW_ok [] (Nat.le_of_ble_eq_true rfl)) dX10_goesOn_41 ⟨(Nat.le_of_ble_eq_true rfl), (Nat.le_of_ble_eq_true rfl)⟩ rfl (by rw [e6]; rfl) (mX10_stepsGo l D fu S b3 _ g7) (fun H locs hV => ?_)
  exact h_zret hx hb hr hlk hV h8 (Nat.le_of_ble_eq_true rfl) (Nat.le_of_ble_eq_true rfl) dX10_goesOn_44
def fX10_goesOn (fu : Nat) (S : hS) (a0 : Nat) : Option (Int32 × hS) := (gR S 9 6 (some a0)).bind fun v1 => (gI S 9 20 (some a0)).bind fun v4 => (aI S 10 v1 v4).bind fun v7 => if v7 = 0 then (fX10_goesOn_40 fu S a0) else if v7 = 1 then ((rcv S 9 (some a0)).bind fun b14 =>
bn2 (fX10_heapGoes fu S b14) fun r12 S13 =>
(zz r12).bind (fun v => some (v, S13))) else if v7 = 2 then ((rcv S 9 (some a0)).bind fun b23 =>
bn2 (fX10_mergeGoes fu S b23) fun r21 S22 =>
(zz r21).bind (fun v => some (v, S22))) else if v7 = 3 then (fX10_goesOn_40 fu S a0) else ((rcv S 9 (some a0)).bind fun b32 =>
bn2 (fX10_rangeGoes fu S b32) fun r30 S31 =>
(zz r30).bind (fun v => some (v, S31)))
set_option maxHeartbeats 4000000 in
set_option maxRecDepth 100000 in
theorem mX10_goesOn (l : Launch) (D : hD) (fu : Nat) (S : hS) (a0 : Nat) (z : Int32 × hS) (h : fX10_goesOn fu S a0 = some z) : hM l D yX10_goesOn cX10_goesOn 1 (some .boolean) 4 76 0 0 [va_rf (some a0)] S (some (.int z.1)) z.2 := by
  refine h_body [.inr (some a0)] RX10 (by decide) rfl (Nat.le_of_ble_eq_true rfl) ?_
  intro p e s m args below meth c C hin ls hV hl
  obtain ⟨-, hx, hb, hml, hown, hr, hlk, hK, hts⟩ := id C
  unfold fX10_goesOn at h
  refine hr_aload_n hx hb dX10_goesOn_0 rfl (hr_at hl 0 rfl) ?_
  obtain ⟨v1, g2, h3⟩ := hbind h; clear h
  refine h_gR hx hb hown hV g2 (flRX10_16 hts hK) dX10_goesOn_1 ?_
  refine hr_aload_n hx hb dX10_goesOn_4 rfl (hr_at hl 0 rfl) ?_
  obtain ⟨v4, g5, h6⟩ := hbind h3; clear h3
  refine h_gI hx hb hown hV g5 (flRX10_119 hts hK) dX10_goesOn_5 ?_
  obtain ⟨v7, g8, h9⟩ := hbind h6; clear h6
  refine h_iald hx hb hK hV g8 dX10_goesOn_8 ?_
  by_cases c10 : v7 = 0
  · rw [if_pos c10] at h9
    refine lv_tableIn (off := 31) (tgt := 40) hx hb dX10_goesOn_9 (by rw [c10]; decide) (by rw [c10]; decide) (by rw [c10]; rfl) (by decide) ?_
    exact kX10_goesOn_40 C fu S a0 _ _ _ h9 hV (hl_sub hl [0] rfl)
  · rw [if_neg c10] at h9
    by_cases c11 : v7 = 1
    · rw [if_pos c11] at h9
      refine lv_tableIn (off := 36) (tgt := 45) hx hb dX10_goesOn_9 (by rw [c11]; decide) (by rw [c11]; decide) (by rw [c11]; rfl) (by decide) ?_
      refine hr_aload_n hx hb dX10_goesOn_45 rfl (hr_at hl 0 rfl) ?_
      obtain ⟨b14, g15, h16⟩ := hbind h9; clear h9
      obtain ⟨_, _, e17, q17⟩ := rcv_inv g15
      obtain ⟨r12, S13, g18, h19⟩ := hbn2 h16; clear h16
      refine h_callV (n := 0) (As := []) (rest := []) (st1 := [.int r12]) (fr := 2) (lo := 43) (mc := 0) (ms := 0) C.1 hK hV q17 rfl rfl wd955 wd952 wd954 wd72 wd83 ⟨by decide, by decide, by decide⟩ ⟨(Nat.le_of_ble_eq_true rfl), (Nat.le_of_ble_eq_true rfl)⟩ rfl hl.1 (hW_ok [] (Nat.le_of_ble_eq_true rfl)) dX10_goesOn_46 ⟨(Nat.le_of_ble_eq_true rfl), (Nat.le_of_ble_eq_true rfl)⟩ rfl (by rw [e17]; rfl) (mX10_heapGoes l D fu S b14 _ g18) (fun H locs hV => ?_)
      exact h_zret hx hb hr hlk hV h19 (Nat.le_of_ble_eq_true rfl) (Nat.le_of_ble_eq_true rfl) dX10_goesOn_49
    · rw [if_neg c11] at h9
      by_cases c20 : v7 = 2
      · rw [if_pos c20] at h9
        refine lv_tableIn (off := 41) (tgt := 50) hx hb dX10_goesOn_9 (by rw [c20]; decide) (by rw [c20]; decide) (by rw [c20]; rfl) (by decide) ?_
        refine hr_aload_n hx hb dX10_goesOn_50 rfl (hr_at hl 0 rfl) ?_
        obtain ⟨b23, g24, h25⟩ := hbind h9; clear h9
        obtain ⟨_, _, e26, q26⟩ := rcv_inv g24
        obtain ⟨r21, S22, g27, h28⟩ := hbn2 h25; clear h25
        refine h_callV (n := 0) (As := []) (rest := []) (st1 := [.int r21]) (fr := 3) (lo := 56) (mc := 0) (ms := 0) C.1 hK hV q26 rfl rfl wd959 wd956 wd958 wd73 wd83 ⟨by decide, by decide, by decide⟩ ⟨(Nat.le_of_ble_eq_true rfl), (Nat.le_of_ble_eq_true rfl)⟩ rfl hl.1 (hW_ok [] (Nat.le_of_ble_eq_true rfl)) dX10_goesOn_51 ⟨(Nat.le_of_ble_eq_true rfl), (Nat.le_of_ble_eq_true rfl)⟩ rfl (by rw [e26]; rfl) (mX10_mergeGoes l D fu S b23 _ g27) (fun H locs hV => ?_)
        exact h_zret hx hb hr hlk hV h28 (Nat.le_of_ble_eq_true rfl) (Nat.le_of_ble_eq_true rfl) dX10_goesOn_54
      · rw [if_neg c20] at h9
        by_cases c29 : v7 = 3
        · rw [if_pos c29] at h9
          refine lv_tableIn (off := 31) (tgt := 40) hx hb dX10_goesOn_9 (by rw [c29]; decide) (by rw [c29]; decide) (by rw [c29]; rfl) (by decide) ?_
          exact kX10_goesOn_40 C fu S a0 _ _ _ h9 hV (hl_sub hl [0] rfl)
        · rw [if_neg c29] at h9
          have ec10 : (v7).toInt ≠ 0 := h_tinj (k := 0) c10
          have ec11 : (v7).toInt ≠ 1 := h_tinj (k := 1) c11
          have ec20 : (v7).toInt ≠ 2 := h_tinj (k := 2) c20
          have ec29 : (v7).toInt ≠ 3 := h_tinj (k := 3) c29
          refine lv_tableOut (tgt := 55) hx hb dX10_goesOn_9 (by omega) (by decide) ?_
          refine hr_aload_n hx hb dX10_goesOn_55 rfl (hr_at hl 0 rfl) ?_
          obtain ⟨b32, g33, h34⟩ := hbind h9; clear h9
          obtain ⟨_, _, e35, q35⟩ := rcv_inv g33
          obtain ⟨r30, S31, g36, h37⟩ := hbn2 h34; clear h34
          refine h_callV (n := 0) (As := []) (rest := []) (st1 := [.int r30]) (fr := 2) (lo := 45) (mc := 0) (ms := 0) C.1 hK hV q35 rfl rfl wd963 wd960 wd962 wd74 wd83 ⟨by decide, by decide, by decide⟩ ⟨(Nat.le_of_ble_eq_true rfl), (Nat.le_of_ble_eq_true rfl)⟩ rfl hl.1 (hW_ok [] (Nat.le_of_ble_eq_true rfl)) dX10_goesOn_56 ⟨(Nat.le_of_ble_eq_true rfl), (Nat.le_of_ble_eq_true rfl)⟩ rfl (by rw [e35]; rfl) (mX10_rangeGoes l D fu S b32 _ g36) (fun H locs hV => ?_)
          exact h_zret hx hb hr hlk hV h37 (Nat.le_of_ble_eq_true rfl) (Nat.le_of_ble_eq_true rfl) dX10_goesOn_59
def fX10_turn_87 (fu : Nat) (k4 : hS → Nat → Int32 → Int32 → Option (Int32 × hS)) (S : hS) (a0 : Nat) (x1 : Int32) (x2 : Int32) : Option (Int32 × hS) := k4 S a0 x1 (x2 + (1 : Int32))
set_option maxHeartbeats 4000000 in
set_option maxRecDepth 100000 in
theorem kX10_turn_87 {p : Program} {l : Launch} {e : Env} {s : State} {m : MethodId} {args : Array Value} {below : List Frame} {meth : Method} {c : Code} {D : hD} {S0 : hS} {z : Int32 × hS} (C : hCx p m c cX10_turn 4 s args RX10 meth (some .int) D) (fu : Nat) (k4 : hS → Nat → Int32 → Int32 → Option (Int32 × hS)) (hk4 : ∀ (S : hS) (a0 : Nat) (x1 : Int32) (x2 : Int32) (H : Heap) (locs : List Loc) (ls : Array Slot), k4 S a0 x1 x2 = some z → h_V D (h_A S0) s S H locs → hl_has ls 4 [(0, .inr (some a0)), (1, .inl x1), (2, .inl x2)] → W p l e { frames := 0, cells := 0, slots := 0, locals := 0 } s m args below meth c H locs 0 0 (MQ below (h_Q D (h_A S0) (some (.int z.1)) z.2) args s 0 0 (h_A S0)) (F0 m 4 ls [])) : ∀ (S : hS) (a0 : Nat) (x1 : Int32) (x2 : Int32) (H : Heap) (locs : List Loc) (ls : Array Slot), fX10_turn_87 fu k4 S a0 x1 x2 = some z → h_V D (h_A S0) s S H locs → hl_has ls 4 [(0, .inr (some a0)), (1, .inl x1), (2, .inl x2)] → W p l e { frames := 0, cells := 0, slots := 0, locals := 0 } s m args below meth c H locs 0 0 (MQ below (h_Q D (h_A S0) (some (.int z.1)) z.2) args s 0 0 (h_A S0)) (F0 m 87 ls []) := by
  obtain ⟨-, hx, hb, hml, hown, hr, hlk, hK, hts⟩ := id C
  intro S a0 x1 x2 _ _ _ h hV hl
  unfold fX10_turn_87 at h
  refine h_iinc (v := (x2 + (1 : Int32))) (tl' := [(2, .inl (x2 + (1 : Int32))), (0, .inr (some a0)), (1, .inl x1)]) hx hb dX10_turn_87 hl (k := 2) rfl rfl (by decide) rfl (fun ls hl => ?_)
  refine lv_goto (tgt := 4) hx hb dX10_turn_90 (by decide) ?_
  exact hk4 S a0 x1 (x2 + (1 : Int32)) _ _ _ h hV (hl_sub hl [1, 2, 0] rfl)
def fX10_turn_80 (fu : Nat) (k4 : hS → Nat → Int32 → Int32 → Option (Int32 × hS)) (S : hS) (a0 : Nat) (x1 : Int32) (x2 : Int32) (t0 : Int32) : Option (Int32 × hS) := if t0 = 0 then (fX10_turn_87 fu k4 S a0 x1 x2) else (fX10_turn_87 fu k4 S a0 x2 x2)
set_option maxHeartbeats 4000000 in
set_option maxRecDepth 100000 in
theorem kX10_turn_80 {p : Program} {l : Launch} {e : Env} {s : State} {m : MethodId} {args : Array Value} {below : List Frame} {meth : Method} {c : Code} {D : hD} {S0 : hS} {z : Int32 × hS} (C : hCx p m c cX10_turn 4 s args RX10 meth (some .int) D) (fu : Nat) (k4 : hS → Nat → Int32 → Int32 → Option (Int32 × hS)) (hk4 : ∀ (S : hS) (a0 : Nat) (x1 : Int32) (x2 : Int32) (H : Heap) (locs : List Loc) (ls : Array Slot), k4 S a0 x1 x2 = some z → h_V D (h_A S0) s S H locs → hl_has ls 4 [(0, .inr (some a0)), (1, .inl x1), (2, .inl x2)] → W p l e { frames := 0, cells := 0, slots := 0, locals := 0 } s m args below meth c H locs 0 0 (MQ below (h_Q D (h_A S0) (some (.int z.1)) z.2) args s 0 0 (h_A S0)) (F0 m 4 ls [])) : ∀ (S : hS) (a0 : Nat) (x1 : Int32) (x2 : Int32) (t0 : Int32) (H : Heap) (locs : List Loc) (ls : Array Slot), fX10_turn_80 fu k4 S a0 x1 x2 t0 = some z → h_V D (h_A S0) s S H locs → hl_has ls 4 [(0, .inr (some a0)), (1, .inl x1), (2, .inl x2)] → W p l e { frames := 0, cells := 0, slots := 0, locals := 0 } s m args below meth c H locs 0 0 (MQ below (h_Q D (h_A S0) (some (.int z.1)) z.2) args s 0 0 (h_A S0)) (F0 m 80 ls [.int t0]) := by
  obtain ⟨-, hx, hb, hml, hown, hr, hlk, hK, hts⟩ := id C
  intro S a0 x1 x2 t0 _ _ _ h hV hl
  unfold fX10_turn_80 at h
  refine h_istore_n (tl' := [(3, .inl t0), (0, .inr (some a0)), (1, .inl x1), (2, .inl x2)]) hx hb dX10_turn_80 rfl hl (by decide) rfl (fun ls hl => ?_)
  refine lv_iload_n hx hb dX10_turn_81 rfl (hi_at hl 0 rfl) ?_
  refine lv_if_eq (tgt := 87) hx hb dX10_turn_82 (by decide) (fun c1 => ?_) (fun c1 => ?_)
  · rw [if_pos c1] at h
    exact kX10_turn_87 C fu k4 hk4 S a0 x1 x2 _ _ _ h hV (hl_sub hl [1, 2, 3] rfl)
  · rw [if_neg c1] at h
    refine lv_iload_n hx hb dX10_turn_85 rfl (hi_at hl 3 rfl) ?_
    refine h_istore_n (tl' := [(1, .inl x2), (3, .inl t0), (0, .inr (some a0)), (2, .inl x2)]) hx hb dX10_turn_86 rfl hl (by decide) rfl (fun ls hl => ?_)
    exact kX10_turn_87 C fu k4 hk4 S a0 x2 x2 _ _ _ h hV (hl_sub hl [2, 0, 3] rfl)
def fX10_turn_79 (fu : Nat) (k4 : hS → Nat → Int32 → Int32 → Option (Int32 × hS)) (S : hS) (a0 : Nat) (x1 : Int32) (x2 : Int32) : Option (Int32 × hS) := fX10_turn_80 fu k4 S a0 x1 x2 (0 : Int32)
set_option maxHeartbeats 4000000 in
set_option maxRecDepth 100000 in
theorem kX10_turn_79 {p : Program} {l : Launch} {e : Env} {s : State} {m : MethodId} {args : Array Value} {below : List Frame} {meth : Method} {c : Code} {D : hD} {S0 : hS} {z : Int32 × hS} (C : hCx p m c cX10_turn 4 s args RX10 meth (some .int) D) (fu : Nat) (k4 : hS → Nat → Int32 → Int32 → Option (Int32 × hS)) (hk4 : ∀ (S : hS) (a0 : Nat) (x1 : Int32) (x2 : Int32) (H : Heap) (locs : List Loc) (ls : Array Slot), k4 S a0 x1 x2 = some z → h_V D (h_A S0) s S H locs → hl_has ls 4 [(0, .inr (some a0)), (1, .inl x1), (2, .inl x2)] → W p l e { frames := 0, cells := 0, slots := 0, locals := 0 } s m args below meth c H locs 0 0 (MQ below (h_Q D (h_A S0) (some (.int z.1)) z.2) args s 0 0 (h_A S0)) (F0 m 4 ls [])) : ∀ (S : hS) (a0 : Nat) (x1 : Int32) (x2 : Int32) (H : Heap) (locs : List Loc) (ls : Array Slot), fX10_turn_79 fu k4 S a0 x1 x2 = some z → h_V D (h_A S0) s S H locs → hl_has ls 4 [(0, .inr (some a0)), (1, .inl x1), (2, .inl x2)] → W p l e { frames := 0, cells := 0, slots := 0, locals := 0 } s m args below meth c H locs 0 0 (MQ below (h_Q D (h_A S0) (some (.int z.1)) z.2) args s 0 0 (h_A S0)) (F0 m 79 ls []) := by
  obtain ⟨-, hx, hb, hml, hown, hr, hlk, hK, hts⟩ := id C
  intro S a0 x1 x2 _ _ _ h hV hl
  unfold fX10_turn_79 at h
  refine lv_iconst (v := 0) hx hb dX10_turn_79 (by decide) ?_
  exact kX10_turn_80 C fu k4 hk4 S a0 x1 x2 (0 : Int32) _ _ _ h hV (hl_sub hl [0, 1, 2] rfl)
def fX10_turn_75 (fu : Nat) (k4 : hS → Nat → Int32 → Int32 → Option (Int32 × hS)) (S : hS) (a0 : Nat) (x1 : Int32) (x2 : Int32) : Option (Int32 × hS) := fX10_turn_80 fu k4 S a0 x1 x2 (1 : Int32)
set_option maxHeartbeats 4000000 in
set_option maxRecDepth 100000 in
theorem kX10_turn_75 {p : Program} {l : Launch} {e : Env} {s : State} {m : MethodId} {args : Array Value} {below : List Frame} {meth : Method} {c : Code} {D : hD} {S0 : hS} {z : Int32 × hS} (C : hCx p m c cX10_turn 4 s args RX10 meth (some .int) D) (fu : Nat) (k4 : hS → Nat → Int32 → Int32 → Option (Int32 × hS)) (hk4 : ∀ (S : hS) (a0 : Nat) (x1 : Int32) (x2 : Int32) (H : Heap) (locs : List Loc) (ls : Array Slot), k4 S a0 x1 x2 = some z → h_V D (h_A S0) s S H locs → hl_has ls 4 [(0, .inr (some a0)), (1, .inl x1), (2, .inl x2)] → W p l e { frames := 0, cells := 0, slots := 0, locals := 0 } s m args below meth c H locs 0 0 (MQ below (h_Q D (h_A S0) (some (.int z.1)) z.2) args s 0 0 (h_A S0)) (F0 m 4 ls [])) : ∀ (S : hS) (a0 : Nat) (x1 : Int32) (x2 : Int32) (H : Heap) (locs : List Loc) (ls : Array Slot), fX10_turn_75 fu k4 S a0 x1 x2 = some z → h_V D (h_A S0) s S H locs → hl_has ls 4 [(0, .inr (some a0)), (1, .inl x1), (2, .inl x2)] → W p l e { frames := 0, cells := 0, slots := 0, locals := 0 } s m args below meth c H locs 0 0 (MQ below (h_Q D (h_A S0) (some (.int z.1)) z.2) args s 0 0 (h_A S0)) (F0 m 75 ls []) := by
  obtain ⟨-, hx, hb, hml, hown, hr, hlk, hK, hts⟩ := id C
  intro S a0 x1 x2 _ _ _ h hV hl
  unfold fX10_turn_75 at h
  refine lv_iconst (v := 1) hx hb dX10_turn_75 (by decide) ?_
  refine lv_goto (tgt := 80) hx hb dX10_turn_76 (by decide) ?_
  exact kX10_turn_80 C fu k4 hk4 S a0 x1 x2 (1 : Int32) _ _ _ h hV (hl_sub hl [0, 1, 2] rfl)
def fX10_turn_4 (fu : Nat) : Nat → hS → Nat → Int32 → Int32 → Option (Int32 × hS)
  | 0, _, _, _, _ => none
  | n + 1, S, a0, x1, x2 => (gI S 9 1 (some a0)).bind fun v1 => if v1 ≤ x2 then (some (x1, S)) else ((gR S 9 4 (some a0)).bind fun v5 =>
(aI S 10 v5 x2).bind fun v8 =>
if v8 = (2 : Int32) then (if x1 = (-1 : Int32) then (fX10_turn_75 fu (fX10_turn_4 fu n) S a0 x1 x2) else ((gR S 9 7 (some a0)).bind fun v13 =>
(aI S 10 v13 x2).bind fun v16 =>
(gR S 9 7 (some a0)).bind fun v19 =>
(aI S 10 v19 x1).bind fun v22 =>
if v22 < v16 then (fX10_turn_75 fu (fX10_turn_4 fu n) S a0 x1 x2) else ((gR S 9 7 (some a0)).bind fun v26 =>
(aI S 10 v26 x2).bind fun v29 =>
(gR S 9 7 (some a0)).bind fun v32 =>
(aI S 10 v32 x1).bind fun v35 =>
if v29 = v35 then ((gR S 9 11 (some a0)).bind fun v39 =>
(aI S 10 v39 x2).bind fun v42 =>
(gR S 9 11 (some a0)).bind fun v45 =>
(aI S 10 v45 x1).bind fun v48 =>
if v48 ≤ v42 then (fX10_turn_79 fu (fX10_turn_4 fu n) S a0 x1 x2) else (fX10_turn_75 fu (fX10_turn_4 fu n) S a0 x1 x2)) else (fX10_turn_79 fu (fX10_turn_4 fu n) S a0 x1 x2)))) else (fX10_turn_87 fu (fX10_turn_4 fu n) S a0 x1 x2))
set_option maxHeartbeats 4000000 in
set_option maxRecDepth 100000 in
theorem kX10_turn_4 {p : Program} {l : Launch} {e : Env} {s : State} {m : MethodId} {args : Array Value} {below : List Frame} {meth : Method} {c : Code} {D : hD} {S0 : hS} {z : Int32 × hS} (C : hCx p m c cX10_turn 4 s args RX10 meth (some .int) D) (fu : Nat) : ∀ (n : Nat) (S : hS) (a0 : Nat) (x1 : Int32) (x2 : Int32) (H : Heap) (locs : List Loc) (ls : Array Slot), fX10_turn_4 fu n S a0 x1 x2 = some z → h_V D (h_A S0) s S H locs → hl_has ls 4 [(0, .inr (some a0)), (1, .inl x1), (2, .inl x2)] → W p l e { frames := 0, cells := 0, slots := 0, locals := 0 } s m args below meth c H locs 0 0 (MQ below (h_Q D (h_A S0) (some (.int z.1)) z.2) args s 0 0 (h_A S0)) (F0 m 4 ls []) := by
  obtain ⟨-, hx, hb, hml, hown, hr, hlk, hK, hts⟩ := id C
  intro n
  induction n with
  | zero =>
    intro S a0 x1 x2 _ _ _ h hV hl
    rw [fX10_turn_4] at h
    cases h
  | succ n ih =>
    intro S a0 x1 x2 _ _ _ h hV hl
    rw [fX10_turn_4] at h
    refine lv_iload_n hx hb dX10_turn_4 rfl (hi_at hl 2 rfl) ?_
    refine hr_aload_n hx hb dX10_turn_5 rfl (hr_at hl 0 rfl) ?_
    obtain ⟨v1, g2, h3⟩ := hbind h; clear h
    refine h_gI hx hb hown hV g2 (flRX10_63 hts hK) dX10_turn_6 ?_
    refine lv_icmp_ge (tgt := 93) hx hb dX10_turn_9 (by decide) (fun c4 => ?_) (fun c4 => ?_)
    · rw [if_pos c4] at h3
      refine lv_iload_n hx hb dX10_turn_93 rfl (hi_at hl 1 rfl) ?_
      exact h_iret hx hb hr hlk hV h3 (Nat.le_of_ble_eq_true rfl) (Nat.le_of_ble_eq_true rfl) dX10_turn_94
    · rw [if_neg c4] at h3
      refine hr_aload_n hx hb dX10_turn_12 rfl (hr_at hl 0 rfl) ?_
      obtain ⟨v5, g6, h7⟩ := hbind h3; clear h3
      refine h_gR hx hb hown hV g6 (flRX10_9 hts hK) dX10_turn_13 ?_
      refine lv_iload_n hx hb dX10_turn_16 rfl (hi_at hl 2 rfl) ?_
      obtain ⟨v8, g9, h10⟩ := hbind h7; clear h7
      refine h_iald hx hb hK hV g9 dX10_turn_17 ?_
      refine lv_iconst (v := 2) hx hb dX10_turn_18 (by decide) ?_
      refine lv_icmp_eq (tgt := 25) hx hb dX10_turn_19 (by decide) (fun c11 => ?_) (fun c11 => ?_)
      · rw [if_pos c11] at h10
        refine lv_iload_n hx hb dX10_turn_25 rfl (hi_at hl 1 rfl) ?_
        refine lv_iconst (v := -1) hx hb dX10_turn_26 (by decide) ?_
        refine lv_icmp_eq (tgt := 75) hx hb dX10_turn_27 (by decide) (fun c12 => ?_) (fun c12 => ?_)
        · rw [if_pos c12] at h10
          exact kX10_turn_75 C fu (fX10_turn_4 fu n) ih S a0 x1 x2 _ _ _ h10 hV (hl_sub hl [0, 1, 2] rfl)
        · rw [if_neg c12] at h10
          refine hr_aload_n hx hb dX10_turn_30 rfl (hr_at hl 0 rfl) ?_
          obtain ⟨v13, g14, h15⟩ := hbind h10; clear h10
          refine h_gR hx hb hown hV g14 (flRX10_19 hts hK) dX10_turn_31 ?_
          refine lv_iload_n hx hb dX10_turn_34 rfl (hi_at hl 2 rfl) ?_
          obtain ⟨v16, g17, h18⟩ := hbind h15; clear h15
          refine h_iald hx hb hK hV g17 dX10_turn_35 ?_
          refine hr_aload_n hx hb dX10_turn_36 rfl (hr_at hl 0 rfl) ?_
          obtain ⟨v19, g20, h21⟩ := hbind h18; clear h18
          refine h_gR hx hb hown hV g20 (flRX10_19 hts hK) dX10_turn_37 ?_
          refine lv_iload_n hx hb dX10_turn_40 rfl (hi_at hl 1 rfl) ?_
          obtain ⟨v22, g23, h24⟩ := hbind h21; clear h21
          refine h_iald hx hb hK hV g23 dX10_turn_41 ?_
          refine lv_icmp_gt (tgt := 75) hx hb dX10_turn_42 (by decide) (fun c25 => ?_) (fun c25 => ?_)
          · rw [if_pos c25] at h24
            exact kX10_turn_75 C fu (fX10_turn_4 fu n) ih S a0 x1 x2 _ _ _ h24 hV (hl_sub hl [0, 1, 2] rfl)
          · rw [if_neg c25] at h24
            refine hr_aload_n hx hb dX10_turn_45 rfl (hr_at hl 0 rfl) ?_
            obtain ⟨v26, g27, h28⟩ := hbind h24; clear h24
            refine h_gR hx hb hown hV g27 (flRX10_19 hts hK) dX10_turn_46 ?_
            refine lv_iload_n hx hb dX10_turn_49 rfl (hi_at hl 2 rfl) ?_
            obtain ⟨v29, g30, h31⟩ := hbind h28; clear h28
            refine h_iald hx hb hK hV g30 dX10_turn_50 ?_
            refine hr_aload_n hx hb dX10_turn_51 rfl (hr_at hl 0 rfl) ?_
            obtain ⟨v32, g33, h34⟩ := hbind h31; clear h31
            refine h_gR hx hb hown hV g33 (flRX10_19 hts hK) dX10_turn_52 ?_
            refine lv_iload_n hx hb dX10_turn_55 rfl (hi_at hl 1 rfl) ?_
            obtain ⟨v35, g36, h37⟩ := hbind h34; clear h34
            refine h_iald hx hb hK hV g36 dX10_turn_56 ?_
            refine lv_icmp_ne (tgt := 79) hx hb dX10_turn_57 (by decide) (fun c38 => ?_) (fun c38 => ?_)
            · rw [if_neg c38] at h37
              exact kX10_turn_79 C fu (fX10_turn_4 fu n) ih S a0 x1 x2 _ _ _ h37 hV (hl_sub hl [0, 1, 2] rfl)
            · rw [if_pos c38] at h37
              refine hr_aload_n hx hb dX10_turn_60 rfl (hr_at hl 0 rfl) ?_
              obtain ⟨v39, g40, h41⟩ := hbind h37; clear h37
              refine h_gR hx hb hown hV g40 (flRX10_31 hts hK) dX10_turn_61 ?_
              refine lv_iload_n hx hb dX10_turn_64 rfl (hi_at hl 2 rfl) ?_
              obtain ⟨v42, g43, h44⟩ := hbind h41; clear h41
              refine h_iald hx hb hK hV g43 dX10_turn_65 ?_
              refine hr_aload_n hx hb dX10_turn_66 rfl (hr_at hl 0 rfl) ?_
              obtain ⟨v45, g46, h47⟩ := hbind h44; clear h44
              refine h_gR hx hb hown hV g46 (flRX10_31 hts hK) dX10_turn_67 ?_
              refine lv_iload_n hx hb dX10_turn_70 rfl (hi_at hl 1 rfl) ?_
              obtain ⟨v48, g49, h50⟩ := hbind h47; clear h47
              refine h_iald hx hb hK hV g49 dX10_turn_71 ?_
              refine lv_icmp_ge (tgt := 79) hx hb dX10_turn_72 (by decide) (fun c51 => ?_) (fun c51 => ?_)
              · rw [if_pos c51] at h50
                exact kX10_turn_79 C fu (fX10_turn_4 fu n) ih S a0 x1 x2 _ _ _ h50 hV (hl_sub hl [0, 1, 2] rfl)
              · rw [if_neg c51] at h50
                exact kX10_turn_75 C fu (fX10_turn_4 fu n) ih S a0 x1 x2 _ _ _ h50 hV (hl_sub hl [0, 1, 2] rfl)
      · rw [if_neg c11] at h10
        refine lv_goto (tgt := 87) hx hb dX10_turn_22 (by decide) ?_
        exact kX10_turn_87 C fu (fX10_turn_4 fu n) ih S a0 x1 x2 _ _ _ h10 hV (hl_sub hl [0, 1, 2] rfl)
def fX10_turn (fu : Nat) (S : hS) (a0 : Nat) : Option (Int32 × hS) := fX10_turn_4 fu fu S a0 (-1 : Int32) (0 : Int32)
set_option maxHeartbeats 4000000 in
set_option maxRecDepth 100000 in
theorem mX10_turn (l : Launch) (D : hD) (fu : Nat) (S : hS) (a0 : Nat) (z : Int32 × hS) (h : fX10_turn fu S a0 = some z) : hM l D yX10_turn cX10_turn 4 (some .int) 0 0 0 0 [va_rf (some a0)] S (some (.int z.1)) z.2 := by
  refine h_body [.inr (some a0)] RX10 (by decide) rfl (Nat.le_of_ble_eq_true rfl) ?_
  intro p e s m args below meth c C hin ls hV hl
  obtain ⟨-, hx, hb, hml, hown, hr, hlk, hK, hts⟩ := id C
  unfold fX10_turn at h
  refine lv_iconst (v := -1) hx hb dX10_turn_0 (by decide) ?_
  refine h_istore_n (tl' := [(1, .inl (-1 : Int32)), (0, .inr (some a0))]) hx hb dX10_turn_1 rfl hl (by decide) rfl (fun ls hl => ?_)
  refine lv_iconst (v := 0) hx hb dX10_turn_2 (by decide) ?_
  refine h_istore_n (tl' := [(2, .inl (0 : Int32)), (1, .inl (-1 : Int32)), (0, .inr (some a0))]) hx hb dX10_turn_3 rfl hl (by decide) rfl (fun ls hl => ?_)
  exact kX10_turn_4 C fu fu S a0 (-1 : Int32) (0 : Int32) _ _ _ h hV (hl_sub hl [2, 1, 0] rfl)
def fX10_tick_82 (fu : Nat) (S : hS) (a0 : Nat) (x1 : Int32) : Option (Int32 × hS) := (rcv S 9 (some a0)).bind fun b3 => bn2 (fX10_putsBy fu S b3) fun _ S2 => (gR S2 9 14 (some a0)).bind fun v9 => (aI S2 11 v9 x1).bind fun v12 => if v12 = 0 then ((gR S2 9 4 (some a0)).bind fun v24 =>
(sV S2 10 v24 x1 (.int (3 : Int32))).bind fun S27 =>
(gR S27 9 13 (some a0)).bind fun v30 =>
(gI S27 9 15 (some a0)).bind fun v33 =>
(sV S27 10 v30 x1 (.int v33)).bind fun S36 =>
some (x1, S36)) else ((rcv S2 9 (some a0)).bind fun b18 =>
bn2 (fX10_goesToEnd fu S2 b18 x1) fun _ S17 =>
some (x1, S17))
set_option maxHeartbeats 4000000 in
set_option maxRecDepth 100000 in
theorem kX10_tick_82 {p : Program} {l : Launch} {e : Env} {s : State} {m : MethodId} {args : Array Value} {below : List Frame} {meth : Method} {c : Code} {D : hD} {S0 : hS} {z : Int32 × hS} (C : hCx p m c cX10_tick 3 s args RX10 meth (some .int) D) (fu : Nat) : ∀ (S : hS) (a0 : Nat) (x1 : Int32) (H : Heap) (locs : List Loc) (ls : Array Slot), fX10_tick_82 fu S a0 x1 = some z → h_V D (h_A S0) s S H locs → hl_has ls 3 [(0, .inr (some a0)), (1, .inl x1)] → W p l e { frames := 5, cells := 0, slots := 0, locals := 96 } s m args below meth c H locs 0 0 (MQ below (h_Q D (h_A S0) (some (.int z.1)) z.2) args s 0 0 (h_A S0)) (F0 m 82 ls []) := by
  obtain ⟨-, hx, hb, hml, hown, hr, hlk, hK, hts⟩ := id C
  intro S a0 x1 _ _ _ h hV hl
  unfold fX10_tick_82 at h
  refine hr_aload_n hx hb dX10_tick_82 rfl (hr_at hl 0 rfl) ?_
  obtain ⟨b3, g4, h5⟩ := hbind h; clear h
  obtain ⟨_, _, e6, q6⟩ := rcv_inv g4
  obtain ⟨r1, S2, g7, h8⟩ := hbn2 h5; clear h5
  refine h_callV (n := 0) (As := []) (rest := []) (st1 := []) (fr := 0) (lo := 0) (mc := 0) (ms := 0) C.1 hK hV q6 rfl rfl wd915 wd912 wd914 wd67 wd83 ⟨by decide, by decide, by decide⟩ ⟨(Nat.le_of_ble_eq_true rfl), (Nat.le_of_ble_eq_true rfl)⟩ rfl hl.1 (hW_ok [] (Nat.le_of_ble_eq_true rfl)) dX10_tick_83 ⟨(Nat.le_of_ble_eq_true rfl), (Nat.le_of_ble_eq_true rfl)⟩ rfl (by rw [e6]; rfl) (mX10_putsBy l D fu S b3 _ g7) (fun H locs hV => ?_)
  refine hr_aload_n hx hb dX10_tick_86 rfl (hr_at hl 0 rfl) ?_
  obtain ⟨v9, g10, h11⟩ := hbind h8; clear h8
  refine h_gR hx hb hown hV g10 (flRX10_40 hts hK) dX10_tick_87 ?_
  refine lv_iload_n hx hb dX10_tick_90 rfl (hi_at hl 1 rfl) ?_
  obtain ⟨v12, g13, h14⟩ := hbind h11; clear h11
  refine h_zald hx hb hK hV g13 dX10_tick_91 ?_
  refine lv_if_ne (tgt := 115) hx hb dX10_tick_92 (by decide) (fun c15 => ?_) (fun c15 => ?_)
  · rw [if_neg c15] at h14
    refine hr_aload_n hx hb dX10_tick_115 rfl (hr_at hl 0 rfl) ?_
    refine lv_iload_n hx hb dX10_tick_116 rfl (hi_at hl 1 rfl) ?_
    obtain ⟨b18, g19, h20⟩ := hbind h14; clear h14
    obtain ⟨_, _, e21, q21⟩ := rcv_inv g19
    obtain ⟨r16, S17, g22, h23⟩ := hbn2 h20; clear h20
    refine h_callV (n := 1) (As := [.int x1]) (rest := []) (st1 := []) (fr := 0) (lo := 0) (mc := 0) (ms := 0) C.1 hK hV q21 rfl rfl wd851 wd848 wd850 wd51 wd83 ⟨by decide, by decide, by decide⟩ ⟨(Nat.le_of_ble_eq_true rfl), (Nat.le_of_ble_eq_true rfl)⟩ rfl hl.1 (hW_ok [] (Nat.le_of_ble_eq_true rfl)) dX10_tick_117 ⟨(Nat.le_of_ble_eq_true rfl), (Nat.le_of_ble_eq_true rfl)⟩ rfl (by rw [e21]; rfl) (mX10_goesToEnd l D fu S2 b18 x1 _ g22) (fun H locs hV => ?_)
    refine lv_iload_n hx hb dX10_tick_120 rfl (hi_at hl 1 rfl) ?_
    exact h_iret hx hb hr hlk hV h23 (Nat.le_of_ble_eq_true rfl) (Nat.le_of_ble_eq_true rfl) dX10_tick_121
  · rw [if_pos c15] at h14
    refine hr_aload_n hx hb dX10_tick_95 rfl (hr_at hl 0 rfl) ?_
    obtain ⟨v24, g25, h26⟩ := hbind h14; clear h14
    refine h_gR hx hb hown hV g25 (flRX10_9 hts hK) dX10_tick_96 ?_
    refine lv_iload_n hx hb dX10_tick_99 rfl (hi_at hl 1 rfl) ?_
    refine lv_iconst (v := 3) hx hb dX10_tick_100 (by decide) ?_
    obtain ⟨S27, g28, h29⟩ := hbind h26; clear h26
    refine h_iast hx hb hK hV g28 dX10_tick_101 (fun H locs hV => ?_)
    refine hr_aload_n hx hb dX10_tick_102 rfl (hr_at hl 0 rfl) ?_
    obtain ⟨v30, g31, h32⟩ := hbind h29; clear h29
    refine h_gR hx hb hown hV g31 (flRX10_37 hts hK) dX10_tick_103 ?_
    refine lv_iload_n hx hb dX10_tick_106 rfl (hi_at hl 1 rfl) ?_
    refine hr_aload_n hx hb dX10_tick_107 rfl (hr_at hl 0 rfl) ?_
    obtain ⟨v33, g34, h35⟩ := hbind h32; clear h32
    refine h_gI hx hb hown hV g34 (flRX10_106 hts hK) dX10_tick_108 ?_
    obtain ⟨S36, g37, h38⟩ := hbind h35; clear h35
    refine h_iast hx hb hK hV g37 dX10_tick_111 (fun H locs hV => ?_)
    refine lv_goto (tgt := 120) hx hb dX10_tick_112 (by decide) ?_
    refine lv_iload_n hx hb dX10_tick_120 rfl (hi_at hl 1 rfl) ?_
    exact h_iret hx hb hr hlk hV h38 (Nat.le_of_ble_eq_true rfl) (Nat.le_of_ble_eq_true rfl) dX10_tick_121
def fX10_tick_29 (fu : Nat) : Nat → hS → Nat → Int32 → Int32 → Option (Int32 × hS)
  | 0, _, _, _, _ => none
  | n + 1, S, a0, x1, x2 => (gI S 9 2 (some a0)).bind fun v1 => if v1 ≤ x2 then (fX10_tick_82 fu S a0 x1) else ((gR S 9 14 (some a0)).bind fun v5 =>
(aI S 11 v5 x1).bind fun v8 =>
if v8 = 0 then (fX10_tick_82 fu S a0 x1) else ((gR S 9 8 (some a0)).bind fun v12 =>
(aI S 10 v12 x1).bind fun v15 =>
(sV S 10 v12 x1 (.int (v15 + (1 : Int32)))).bind fun S18 =>
(gI S18 9 17 (some a0)).bind fun v21 =>
(pV S18 9 17 (some a0) (.int (v21 + (1 : Int32)))).bind fun S24 =>
(gR S24 9 14 (some a0)).bind fun v27 =>
(rcv S24 9 (some a0)).bind fun b32 =>
bn2 (fX10_goesOn fu S24 b32) fun r30 S31 =>
(zz r30).bind fun _ =>
(sV S31 11 v27 x1 (.int r30)).bind fun S38 =>
fX10_tick_29 fu n S38 a0 x1 (x2 + (1 : Int32))))
set_option maxHeartbeats 4000000 in
set_option maxRecDepth 100000 in
theorem kX10_tick_29 {p : Program} {l : Launch} {e : Env} {s : State} {m : MethodId} {args : Array Value} {below : List Frame} {meth : Method} {c : Code} {D : hD} {S0 : hS} {z : Int32 × hS} (C : hCx p m c cX10_tick 3 s args RX10 meth (some .int) D) (fu : Nat) : ∀ (n : Nat) (S : hS) (a0 : Nat) (x1 : Int32) (x2 : Int32) (H : Heap) (locs : List Loc) (ls : Array Slot), fX10_tick_29 fu n S a0 x1 x2 = some z → h_V D (h_A S0) s S H locs → hl_has ls 3 [(0, .inr (some a0)), (1, .inl x1), (2, .inl x2)] → W p l e { frames := 5, cells := 0, slots := 0, locals := 96 } s m args below meth c H locs 0 0 (MQ below (h_Q D (h_A S0) (some (.int z.1)) z.2) args s 0 0 (h_A S0)) (F0 m 29 ls []) := by
  obtain ⟨-, hx, hb, hml, hown, hr, hlk, hK, hts⟩ := id C
  intro n
  induction n with
  | zero =>
    intro S a0 x1 x2 _ _ _ h hV hl
    rw [fX10_tick_29] at h
    cases h
  | succ n ih =>
    intro S a0 x1 x2 _ _ _ h hV hl
    rw [fX10_tick_29] at h
    refine lv_iload_n hx hb dX10_tick_29 rfl (hi_at hl 2 rfl) ?_
    refine hr_aload_n hx hb dX10_tick_30 rfl (hr_at hl 0 rfl) ?_
    obtain ⟨v1, g2, h3⟩ := hbind h; clear h
    refine h_gI hx hb hown hV g2 (flRX10_66 hts hK) dX10_tick_31 ?_
    refine lv_icmp_ge (tgt := 82) hx hb dX10_tick_34 (by decide) (fun c4 => ?_) (fun c4 => ?_)
    · rw [if_pos c4] at h3
      exact kX10_tick_82 C fu S a0 x1 _ _ _ h3 hV (hl_sub hl [0, 1] rfl)
    · rw [if_neg c4] at h3
      refine hr_aload_n hx hb dX10_tick_37 rfl (hr_at hl 0 rfl) ?_
      obtain ⟨v5, g6, h7⟩ := hbind h3; clear h3
      refine h_gR hx hb hown hV g6 (flRX10_40 hts hK) dX10_tick_38 ?_
      refine lv_iload_n hx hb dX10_tick_41 rfl (hi_at hl 1 rfl) ?_
      obtain ⟨v8, g9, h10⟩ := hbind h7; clear h7
      refine h_zald hx hb hK hV g9 dX10_tick_42 ?_
      refine lv_if_eq (tgt := 82) hx hb dX10_tick_43 (by decide) (fun c11 => ?_) (fun c11 => ?_)
      · rw [if_pos c11] at h10
        exact kX10_tick_82 C fu S a0 x1 _ _ _ h10 hV (hl_sub hl [0, 1] rfl)
      · rw [if_neg c11] at h10
        refine hr_aload_n hx hb dX10_tick_46 rfl (hr_at hl 0 rfl) ?_
        obtain ⟨v12, g13, h14⟩ := hbind h10; clear h10
        refine h_gR hx hb hown hV g13 (flRX10_22 hts hK) dX10_tick_47 ?_
        refine lv_iload_n hx hb dX10_tick_50 rfl (hi_at hl 1 rfl) ?_
        refine hr_dup2 hx hb dX10_tick_51 ?_
        obtain ⟨v15, g16, h17⟩ := hbind h14; clear h14
        refine h_iald hx hb hK hV g16 dX10_tick_52 ?_
        refine lv_iconst (v := 1) hx hb dX10_tick_53 (by decide) ?_
        refine lv_iadd hx hb dX10_tick_54 ?_
        obtain ⟨S18, g19, h20⟩ := hbind h17; clear h17
        refine h_iast hx hb hK hV g19 dX10_tick_55 (fun H locs hV => ?_)
        refine hr_aload_n hx hb dX10_tick_56 rfl (hr_at hl 0 rfl) ?_
        refine hr_dup hx hb dX10_tick_57 ?_
        obtain ⟨v21, g22, h23⟩ := hbind h20; clear h20
        refine h_gI hx hb hown hV g22 (flRX10_215 hts hK) dX10_tick_58 ?_
        refine lv_iconst (v := 1) hx hb dX10_tick_61 (by decide) ?_
        refine lv_iadd hx hb dX10_tick_62 ?_
        obtain ⟨S24, g25, h26⟩ := hbind h23; clear h23
        refine h_put hx hb hown hV g25 (fpRX10_215 hts hK) rfl rfl dX10_tick_63 (fun H locs hV => ?_)
        refine hr_aload_n hx hb dX10_tick_66 rfl (hr_at hl 0 rfl) ?_
        obtain ⟨v27, g28, h29⟩ := hbind h26; clear h26
        refine h_gR hx hb hown hV g28 (flRX10_40 hts hK) dX10_tick_67 ?_
        refine lv_iload_n hx hb dX10_tick_70 rfl (hi_at hl 1 rfl) ?_
        refine hr_aload_n hx hb dX10_tick_71 rfl (hr_at hl 0 rfl) ?_
        obtain ⟨b32, g33, h34⟩ := hbind h29; clear h29
        obtain ⟨_, _, e35, q35⟩ := rcv_inv g33
        obtain ⟨r30, S31, g36, h37⟩ := hbn2 h34; clear h34
        refine h_callV (n := 0) (As := []) (rest := [.int x1, va_rf v27]) (st1 := [.int r30, .int x1, va_rf v27]) (fr := 4) (lo := 76) (mc := 0) (ms := 0) C.1 hK hV q35 rfl rfl wd943 wd940 wd942 wd69 wd83 ⟨by decide, by decide, by decide⟩ ⟨(Nat.le_of_ble_eq_true rfl), (Nat.le_of_ble_eq_true rfl)⟩ rfl hl.1 (hW_ok [.inl x1, .inr v27] (Nat.le_of_ble_eq_true rfl)) dX10_tick_72 ⟨(Nat.le_of_ble_eq_true rfl), (Nat.le_of_ble_eq_true rfl)⟩ rfl (by rw [e35]; rfl) (mX10_goesOn l D fu S24 b32 _ g36) (fun H locs hV => ?_)
        obtain ⟨v39, g40, h41⟩ := hbind h37; clear h37
        obtain ⟨S38, g42, h43⟩ := hbind h41; clear h41
        refine h_zast hx hb hK hV (zz_inv g40).2 g42 dX10_tick_75 (fun H locs hV => ?_)
        refine h_iinc (v := (x2 + (1 : Int32))) (tl' := [(2, .inl (x2 + (1 : Int32))), (0, .inr (some a0)), (1, .inl x1)]) hx hb dX10_tick_76 hl (k := 2) rfl rfl (by decide) rfl (fun ls hl => ?_)
        refine lv_goto (tgt := 29) hx hb dX10_tick_79 (by decide) ?_
        exact ih S38 a0 x1 (x2 + (1 : Int32)) _ _ _ h43 hV (hl_sub hl [1, 2, 0] rfl)
def fX10_tick (fu : Nat) (S : hS) (a0 : Nat) : Option (Int32 × hS) := (gI S 9 15 (some a0)).bind fun v1 => (pV S 9 15 (some a0) (.int (v1 + (1 : Int32)))).bind fun S4 => (rcv S4 9 (some a0)).bind fun b9 => bn2 (fX10_turn fu S4 b9) fun r7 S8 => if r7 = (-1 : Int32) then (some ((-1 : Int32), S8)) else ((rcv S8 9 (some a0)).bind fun b18 =>
bn2 (fX10_takesUp fu S8 b18 r7) fun _ S17 =>
fX10_tick_29 fu fu S17 a0 r7 (0 : Int32))
set_option maxHeartbeats 4000000 in
set_option maxRecDepth 100000 in
theorem mX10_tick (l : Launch) (D : hD) (fu : Nat) (S : hS) (a0 : Nat) (z : Int32 × hS) (h : fX10_tick fu S a0 = some z) : hM l D yX10_tick cX10_tick 3 (some .int) 5 96 0 0 [va_rf (some a0)] S (some (.int z.1)) z.2 := by
  refine h_body [.inr (some a0)] RX10 (by decide) rfl (Nat.le_of_ble_eq_true rfl) ?_
  intro p e s m args below meth c C hin ls hV hl
  obtain ⟨-, hx, hb, hml, hown, hr, hlk, hK, hts⟩ := id C
  unfold fX10_tick at h
  refine hr_aload_n hx hb dX10_tick_0 rfl (hr_at hl 0 rfl) ?_
  refine hr_dup hx hb dX10_tick_1 ?_
  obtain ⟨v1, g2, h3⟩ := hbind h; clear h
  refine h_gI hx hb hown hV g2 (flRX10_106 hts hK) dX10_tick_2 ?_
  refine lv_iconst (v := 1) hx hb dX10_tick_5 (by decide) ?_
  refine lv_iadd hx hb dX10_tick_6 ?_
  obtain ⟨S4, g5, h6⟩ := hbind h3; clear h3
  refine h_put hx hb hown hV g5 (fpRX10_106 hts hK) rfl rfl dX10_tick_7 (fun H locs hV => ?_)
  refine hr_aload_n hx hb dX10_tick_10 rfl (hr_at hl 0 rfl) ?_
  obtain ⟨b9, g10, h11⟩ := hbind h6; clear h6
  obtain ⟨_, _, e12, q12⟩ := rcv_inv g10
  obtain ⟨r7, S8, g13, h14⟩ := hbn2 h11; clear h11
  refine h_callV (n := 0) (As := []) (rest := []) (st1 := [.int r7]) (fr := 0) (lo := 0) (mc := 0) (ms := 0) C.1 hK hV q12 rfl rfl wd939 wd936 wd938 wd68 wd83 ⟨by decide, by decide, by decide⟩ ⟨(Nat.le_of_ble_eq_true rfl), (Nat.le_of_ble_eq_true rfl)⟩ rfl hl.1 (hW_ok [] (Nat.le_of_ble_eq_true rfl)) dX10_tick_11 ⟨(Nat.le_of_ble_eq_true rfl), (Nat.le_of_ble_eq_true rfl)⟩ rfl (by rw [e12]; rfl) (mX10_turn l D fu S4 b9 _ g13) (fun H locs hV => ?_)
  refine h_istore_n (tl' := [(1, .inl r7), (0, .inr (some a0))]) hx hb dX10_tick_14 rfl hl (by decide) rfl (fun ls hl => ?_)
  refine lv_iload_n hx hb dX10_tick_15 rfl (hi_at hl 0 rfl) ?_
  refine lv_iconst (v := -1) hx hb dX10_tick_16 (by decide) ?_
  refine lv_icmp_ne (tgt := 22) hx hb dX10_tick_17 (by decide) (fun c15 => ?_) (fun c15 => ?_)
  · rw [if_neg c15] at h14
    refine hr_aload_n hx hb dX10_tick_22 rfl (hr_at hl 1 rfl) ?_
    refine lv_iload_n hx hb dX10_tick_23 rfl (hi_at hl 0 rfl) ?_
    obtain ⟨b18, g19, h20⟩ := hbind h14; clear h14
    obtain ⟨_, _, e21, q21⟩ := rcv_inv g19
    obtain ⟨r16, S17, g22, h23⟩ := hbn2 h20; clear h20
    refine h_callV (n := 1) (As := [.int r7]) (rest := []) (st1 := []) (fr := 0) (lo := 0) (mc := 0) (ms := 0) C.1 hK hV q21 rfl rfl wd855 wd852 wd854 wd52 wd83 ⟨by decide, by decide, by decide⟩ ⟨(Nat.le_of_ble_eq_true rfl), (Nat.le_of_ble_eq_true rfl)⟩ rfl hl.1 (hW_ok [] (Nat.le_of_ble_eq_true rfl)) dX10_tick_24 ⟨(Nat.le_of_ble_eq_true rfl), (Nat.le_of_ble_eq_true rfl)⟩ rfl (by rw [e21]; rfl) (mX10_takesUp l D fu S8 b18 r7 _ g22) (fun H locs hV => ?_)
    refine lv_iconst (v := 0) hx hb dX10_tick_27 (by decide) ?_
    refine h_istore_n (tl' := [(2, .inl (0 : Int32)), (1, .inl r7), (0, .inr (some a0))]) hx hb dX10_tick_28 rfl hl (by decide) rfl (fun ls hl => ?_)
    exact kX10_tick_29 C fu fu S17 a0 r7 (0 : Int32) _ _ _ h23 hV (hl_sub hl [2, 1, 0] rfl)
  · rw [if_pos c15] at h14
    refine lv_iconst (v := -1) hx hb dX10_tick_20 (by decide) ?_
    exact h_iret hx hb hr hlk hV h14 (Nat.le_of_ble_eq_true rfl) (Nat.le_of_ble_eq_true rfl) dX10_tick_21
def fX10_run_16 (fu : Nat) : Nat → hS → Nat → Int32 → Int32 → Option (Int32 × hS)
  | 0, _, _, _, _ => none
  | n + 1, S, a0, x1, x2 => if x1 ≤ x2 then (some (x2, S)) else ((rcv S 9 (some a0)).bind fun b4 =>
bn2 (fX10_turn fu S b4) fun r2 S3 =>
if r2 = (-1 : Int32) then (some (x2, S3)) else ((rcv S3 9 (some a0)).bind fun b13 =>
bn2 (fX10_tick fu S3 b13) fun r11 S12 =>
fX10_run_16 fu n S12 a0 x1 (x2 + (1 : Int32))))
set_option maxHeartbeats 4000000 in
set_option maxRecDepth 100000 in
theorem kX10_run_16 {p : Program} {l : Launch} {e : Env} {s : State} {m : MethodId} {args : Array Value} {below : List Frame} {meth : Method} {c : Code} {D : hD} {S0 : hS} {z : Int32 × hS} (C : hCx p m c cX10_run 4 s args RX10 meth (some .int) D) (fu : Nat) : ∀ (n : Nat) (S : hS) (a0 : Nat) (x1 : Int32) (x2 : Int32) (H : Heap) (locs : List Loc) (ls : Array Slot), fX10_run_16 fu n S a0 x1 x2 = some z → h_V D (h_A S0) s S H locs → hl_has ls 4 [(0, .inr (some a0)), (1, .inl x1), (2, .inl x2)] → W p l e { frames := 6, cells := 0, slots := 0, locals := 118 } s m args below meth c H locs 0 0 (MQ below (h_Q D (h_A S0) (some (.int z.1)) z.2) args s 0 0 (h_A S0)) (F0 m 16 ls []) := by
  obtain ⟨-, hx, hb, hml, hown, hr, hlk, hK, hts⟩ := id C
  intro n
  induction n with
  | zero =>
    intro S a0 x1 x2 _ _ _ h hV hl
    rw [fX10_run_16] at h
    cases h
  | succ n ih =>
    intro S a0 x1 x2 _ _ _ h hV hl
    rw [fX10_run_16] at h
    refine lv_iload_n hx hb dX10_run_16 rfl (hi_at hl 2 rfl) ?_
    refine lv_iload_n hx hb dX10_run_17 rfl (hi_at hl 1 rfl) ?_
    refine lv_icmp_ge (tgt := 40) hx hb dX10_run_18 (by decide) (fun c1 => ?_) (fun c1 => ?_)
    · rw [if_pos c1] at h
      refine lv_iload_n hx hb dX10_run_40 rfl (hi_at hl 2 rfl) ?_
      exact h_iret hx hb hr hlk hV h (Nat.le_of_ble_eq_true rfl) (Nat.le_of_ble_eq_true rfl) dX10_run_41
    · rw [if_neg c1] at h
      refine hr_aload_n hx hb dX10_run_21 rfl (hr_at hl 0 rfl) ?_
      obtain ⟨b4, g5, h6⟩ := hbind h; clear h
      obtain ⟨_, _, e7, q7⟩ := rcv_inv g5
      obtain ⟨r2, S3, g8, h9⟩ := hbn2 h6; clear h6
      refine h_callV (n := 0) (As := []) (rest := []) (st1 := [.int r2]) (fr := 0) (lo := 0) (mc := 0) (ms := 0) C.1 hK hV q7 rfl rfl wd939 wd936 wd938 wd68 wd83 ⟨by decide, by decide, by decide⟩ ⟨(Nat.le_of_ble_eq_true rfl), (Nat.le_of_ble_eq_true rfl)⟩ rfl hl.1 (hW_ok [] (Nat.le_of_ble_eq_true rfl)) dX10_run_22 ⟨(Nat.le_of_ble_eq_true rfl), (Nat.le_of_ble_eq_true rfl)⟩ rfl (by rw [e7]; rfl) (mX10_turn l D fu S b4 _ g8) (fun H locs hV => ?_)
      refine lv_iconst (v := -1) hx hb dX10_run_25 (by decide) ?_
      refine lv_icmp_eq (tgt := 40) hx hb dX10_run_26 (by decide) (fun c10 => ?_) (fun c10 => ?_)
      · rw [if_pos c10] at h9
        refine lv_iload_n hx hb dX10_run_40 rfl (hi_at hl 2 rfl) ?_
        exact h_iret hx hb hr hlk hV h9 (Nat.le_of_ble_eq_true rfl) (Nat.le_of_ble_eq_true rfl) dX10_run_41
      · rw [if_neg c10] at h9
        refine hr_aload_n hx hb dX10_run_29 rfl (hr_at hl 0 rfl) ?_
        obtain ⟨b13, g14, h15⟩ := hbind h9; clear h9
        obtain ⟨_, _, e16, q16⟩ := rcv_inv g14
        obtain ⟨r11, S12, g17, h18⟩ := hbn2 h15; clear h15
        refine h_callV (n := 0) (As := []) (rest := []) (st1 := [.int r11]) (fr := 5) (lo := 96) (mc := 0) (ms := 0) C.1 hK hV q16 rfl rfl wd935 wd968 wd933 wd934 wd83 ⟨by decide, by decide, by decide⟩ ⟨(Nat.le_of_ble_eq_true rfl), (Nat.le_of_ble_eq_true rfl)⟩ rfl hl.1 (hW_ok [] (Nat.le_of_ble_eq_true rfl)) dX10_run_30 ⟨(Nat.le_of_ble_eq_true rfl), (Nat.le_of_ble_eq_true rfl)⟩ rfl (by rw [e16]; rfl) (mX10_tick l D fu S3 b13 _ g17) (fun H locs hV => ?_)
        refine h_istore_n (tl' := [(3, .inl r11), (0, .inr (some a0)), (1, .inl x1), (2, .inl x2)]) hx hb dX10_run_33 rfl hl (by decide) rfl (fun ls hl => ?_)
        refine h_iinc (v := (x2 + (1 : Int32))) (tl' := [(2, .inl (x2 + (1 : Int32))), (3, .inl r11), (0, .inr (some a0)), (1, .inl x1)]) hx hb dX10_run_34 hl (k := 3) rfl rfl (by decide) rfl (fun ls hl => ?_)
        refine lv_goto (tgt := 16) hx hb dX10_run_37 (by decide) ?_
        exact ih S12 a0 x1 (x2 + (1 : Int32)) _ _ _ h18 hV (hl_sub hl [2, 3, 0] rfl)
def fX10_run (fu : Nat) (S : hS) (a0 : Nat) (x1 : Int32) : Option (Int32 × hS) := if x1 < 0 then (some ((-4 : Int32), S)) else (if x1 ≤ (3000 : Int32) then (fX10_run_16 fu fu S a0 x1 (0 : Int32)) else (some ((-4 : Int32), S)))
set_option maxHeartbeats 4000000 in
set_option maxRecDepth 100000 in
theorem mX10_run (l : Launch) (D : hD) (fu : Nat) (S : hS) (a0 : Nat) (x1 : Int32) (z : Int32 × hS) (h : fX10_run fu S a0 x1 = some z) : hM l D yX10_run cX10_run 4 (some .int) 6 118 0 0 [va_rf (some a0), .int x1] S (some (.int z.1)) z.2 := by
  refine h_body [.inr (some a0), .inl x1] RX10 (by decide) rfl (Nat.le_of_ble_eq_true rfl) ?_
  intro p e s m args below meth c C hin ls hV hl
  obtain ⟨-, hx, hb, hml, hown, hr, hlk, hK, hts⟩ := id C
  unfold fX10_run at h
  refine lv_iload_n hx hb dX10_run_0 rfl (hi_at hl 1 rfl) ?_
  refine lv_if_lt (tgt := 11) hx hb dX10_run_1 (by decide) (fun c1 => ?_) (fun c1 => ?_)
  · rw [if_pos c1] at h
    refine lv_bipush (v := -4) hx hb dX10_run_11 (by decide) ?_
    exact h_iret hx hb hr hlk hV h (Nat.le_of_ble_eq_true rfl) (Nat.le_of_ble_eq_true rfl) dX10_run_13
  · rw [if_neg c1] at h
    refine lv_iload_n hx hb dX10_run_4 rfl (hi_at hl 1 rfl) ?_
    refine lv_sipush (v := 3000) hx hb dX10_run_5 (by decide) ?_
    refine lv_icmp_le (tgt := 14) hx hb dX10_run_8 (by decide) (fun c2 => ?_) (fun c2 => ?_)
    · rw [if_pos c2] at h
      refine lv_iconst (v := 0) hx hb dX10_run_14 (by decide) ?_
      refine h_istore_n (tl' := [(2, .inl (0 : Int32)), (0, .inr (some a0)), (1, .inl x1)]) hx hb dX10_run_15 rfl hl (by decide) rfl (fun ls hl => ?_)
      exact kX10_run_16 C fu fu S a0 x1 (0 : Int32) _ _ _ h hV (hl_sub hl [1, 2, 0] rfl)
    · rw [if_neg c2] at h
      refine lv_bipush (v := -4) hx hb dX10_run_11 (by decide) ?_
      exact h_iret hx hb hr hlk hV h (Nat.le_of_ble_eq_true rfl) (Nat.le_of_ble_eq_true rfl) dX10_run_13
def fX10_state (fu : Nat) (S : hS) (a0 : Nat) (x1 : Int32) : Option (Int32 × hS) := (rcv S 9 (some a0)).bind fun b3 => bn2 (fX10_isJob fu S b3 x1) fun r1 S2 => if r1 = 0 then (some ((-1 : Int32), S2)) else ((gR S2 9 4 (some a0)).bind fun v10 =>
(aI S2 10 v10 x1).bind fun v13 =>
some (v13, S2))
set_option maxHeartbeats 4000000 in
set_option maxRecDepth 100000 in
theorem mX10_state (l : Launch) (D : hD) (fu : Nat) (S : hS) (a0 : Nat) (x1 : Int32) (z : Int32 × hS) (h : fX10_state fu S a0 x1 = some z) : hM l D yX10_state cX10_state 2 (some .int) 2 42 0 0 [va_rf (some a0), .int x1] S (some (.int z.1)) z.2 := by
  refine h_body [.inr (some a0), .inl x1] RX10 (by decide) rfl (Nat.le_of_ble_eq_true rfl) ?_
  intro p e s m args below meth c C hin ls hV hl
  obtain ⟨-, hx, hb, hml, hown, hr, hlk, hK, hts⟩ := id C
  unfold fX10_state at h
  refine hr_aload_n hx hb dX10_state_0 rfl (hr_at hl 0 rfl) ?_
  refine lv_iload_n hx hb dX10_state_1 rfl (hi_at hl 1 rfl) ?_
  obtain ⟨b3, g4, h5⟩ := hbind h; clear h
  obtain ⟨_, _, e6, q6⟩ := rcv_inv g4
  obtain ⟨r1, S2, g7, h8⟩ := hbn2 h5; clear h5
  refine h_callV (n := 1) (As := [.int x1]) (rest := []) (st1 := [.int r1]) (fr := 1) (lo := 21) (mc := 0) (ms := 0) C.1 hK hV q6 rfl rfl wd839 wd836 wd838 wd50 wd83 ⟨by decide, by decide, by decide⟩ ⟨(Nat.le_of_ble_eq_true rfl), (Nat.le_of_ble_eq_true rfl)⟩ rfl hl.1 (hW_ok [] (Nat.le_of_ble_eq_true rfl)) dX10_state_2 ⟨(Nat.le_of_ble_eq_true rfl), (Nat.le_of_ble_eq_true rfl)⟩ rfl (by rw [e6]; rfl) (mX10_isJob l D fu S b3 x1 _ g7) (fun H locs hV => ?_)
  refine lv_if_eq (tgt := 17) hx hb dX10_state_5 (by decide) (fun c9 => ?_) (fun c9 => ?_)
  · rw [if_pos c9] at h8
    refine lv_iconst (v := -1) hx hb dX10_state_17 (by decide) ?_
    exact h_iret hx hb hr hlk hV h8 (Nat.le_of_ble_eq_true rfl) (Nat.le_of_ble_eq_true rfl) dX10_state_18
  · rw [if_neg c9] at h8
    refine hr_aload_n hx hb dX10_state_8 rfl (hr_at hl 0 rfl) ?_
    obtain ⟨v10, g11, h12⟩ := hbind h8; clear h8
    refine h_gR hx hb hown hV g11 (flRX10_9 hts hK) dX10_state_9 ?_
    refine lv_iload_n hx hb dX10_state_12 rfl (hi_at hl 1 rfl) ?_
    obtain ⟨v13, g14, h15⟩ := hbind h12; clear h12
    refine h_iald hx hb hK hV g14 dX10_state_13 ?_
    refine lv_goto (tgt := 18) hx hb dX10_state_14 (by decide) ?_
    exact h_iret hx hb hr hlk hV h15 (Nat.le_of_ble_eq_true rfl) (Nat.le_of_ble_eq_true rfl) dX10_state_18
def fX10_get (fu : Nat) (S : hS) (a0 : Nat) (x1 : Int32) (x2 : Int32) : Option (Int32 × hS) := (rcv S 9 (some a0)).bind fun b3 => bn2 (fX10_isJob fu S b3 x1) fun r1 S2 => if r1 = 0 then (some ((0 : Int32), S2)) else (if x2 < 0 then (some ((0 : Int32), S2)) else ((gR S2 9 5 (some a0)).bind fun v11 =>
(aI S2 10 v11 x1).bind fun v14 =>
if v14 ≤ x2 then (some ((0 : Int32), S2)) else ((gR S2 9 3 (some a0)).bind fun v18 =>
(gR S2 9 9 (some a0)).bind fun v21 =>
(aI S2 10 v21 x1).bind fun v24 =>
(aI S2 10 v18 (v24 + x2)).bind fun v27 =>
some (v27, S2))))
set_option maxHeartbeats 4000000 in
set_option maxRecDepth 100000 in
theorem mX10_get (l : Launch) (D : hD) (fu : Nat) (S : hS) (a0 : Nat) (x1 : Int32) (x2 : Int32) (z : Int32 × hS) (h : fX10_get fu S a0 x1 x2 = some z) : hM l D yX10_get cX10_get 3 (some .int) 2 42 0 0 [va_rf (some a0), .int x1, .int x2] S (some (.int z.1)) z.2 := by
  refine h_body [.inr (some a0), .inl x1, .inl x2] RX10 (by decide) rfl (Nat.le_of_ble_eq_true rfl) ?_
  intro p e s m args below meth c C hin ls hV hl
  obtain ⟨-, hx, hb, hml, hown, hr, hlk, hK, hts⟩ := id C
  unfold fX10_get at h
  refine hr_aload_n hx hb dX10_get_0 rfl (hr_at hl 0 rfl) ?_
  refine lv_iload_n hx hb dX10_get_1 rfl (hi_at hl 1 rfl) ?_
  obtain ⟨b3, g4, h5⟩ := hbind h; clear h
  obtain ⟨_, _, e6, q6⟩ := rcv_inv g4
  obtain ⟨r1, S2, g7, h8⟩ := hbn2 h5; clear h5
  refine h_callV (n := 1) (As := [.int x1]) (rest := []) (st1 := [.int r1]) (fr := 1) (lo := 21) (mc := 0) (ms := 0) C.1 hK hV q6 rfl rfl wd839 wd836 wd838 wd50 wd83 ⟨by decide, by decide, by decide⟩ ⟨(Nat.le_of_ble_eq_true rfl), (Nat.le_of_ble_eq_true rfl)⟩ rfl hl.1 (hW_ok [] (Nat.le_of_ble_eq_true rfl)) dX10_get_2 ⟨(Nat.le_of_ble_eq_true rfl), (Nat.le_of_ble_eq_true rfl)⟩ rfl (by rw [e6]; rfl) (mX10_isJob l D fu S b3 x1 _ g7) (fun H locs hV => ?_)
  refine lv_if_eq (tgt := 38) hx hb dX10_get_5 (by decide) (fun c9 => ?_) (fun c9 => ?_)
  · rw [if_pos c9] at h8
    refine lv_iconst (v := 0) hx hb dX10_get_38 (by decide) ?_
    exact h_iret hx hb hr hlk hV h8 (Nat.le_of_ble_eq_true rfl) (Nat.le_of_ble_eq_true rfl) dX10_get_39
  · rw [if_neg c9] at h8
    refine lv_iload_n hx hb dX10_get_8 rfl (hi_at hl 2 rfl) ?_
    refine lv_if_lt (tgt := 38) hx hb dX10_get_9 (by decide) (fun c10 => ?_) (fun c10 => ?_)
    · rw [if_pos c10] at h8
      refine lv_iconst (v := 0) hx hb dX10_get_38 (by decide) ?_
      exact h_iret hx hb hr hlk hV h8 (Nat.le_of_ble_eq_true rfl) (Nat.le_of_ble_eq_true rfl) dX10_get_39
    · rw [if_neg c10] at h8
      refine lv_iload_n hx hb dX10_get_12 rfl (hi_at hl 2 rfl) ?_
      refine hr_aload_n hx hb dX10_get_13 rfl (hr_at hl 0 rfl) ?_
      obtain ⟨v11, g12, h13⟩ := hbind h8; clear h8
      refine h_gR hx hb hown hV g12 (flRX10_13 hts hK) dX10_get_14 ?_
      refine lv_iload_n hx hb dX10_get_17 rfl (hi_at hl 1 rfl) ?_
      obtain ⟨v14, g15, h16⟩ := hbind h13; clear h13
      refine h_iald hx hb hK hV g15 dX10_get_18 ?_
      refine lv_icmp_ge (tgt := 38) hx hb dX10_get_19 (by decide) (fun c17 => ?_) (fun c17 => ?_)
      · rw [if_pos c17] at h16
        refine lv_iconst (v := 0) hx hb dX10_get_38 (by decide) ?_
        exact h_iret hx hb hr hlk hV h16 (Nat.le_of_ble_eq_true rfl) (Nat.le_of_ble_eq_true rfl) dX10_get_39
      · rw [if_neg c17] at h16
        refine hr_aload_n hx hb dX10_get_22 rfl (hr_at hl 0 rfl) ?_
        obtain ⟨v18, g19, h20⟩ := hbind h16; clear h16
        refine h_gR hx hb hown hV g19 (flRX10_69 hts hK) dX10_get_23 ?_
        refine hr_aload_n hx hb dX10_get_26 rfl (hr_at hl 0 rfl) ?_
        obtain ⟨v21, g22, h23⟩ := hbind h20; clear h20
        refine h_gR hx hb hown hV g22 (flRX10_25 hts hK) dX10_get_27 ?_
        refine lv_iload_n hx hb dX10_get_30 rfl (hi_at hl 1 rfl) ?_
        obtain ⟨v24, g25, h26⟩ := hbind h23; clear h23
        refine h_iald hx hb hK hV g25 dX10_get_31 ?_
        refine lv_iload_n hx hb dX10_get_32 rfl (hi_at hl 2 rfl) ?_
        refine lv_iadd hx hb dX10_get_33 ?_
        obtain ⟨v27, g28, h29⟩ := hbind h26; clear h26
        refine h_iald hx hb hK hV g28 dX10_get_34 ?_
        refine lv_goto (tgt := 39) hx hb dX10_get_35 (by decide) ?_
        exact h_iret hx hb hr hlk hV h29 (Nat.le_of_ble_eq_true rfl) (Nat.le_of_ble_eq_true rfl) dX10_get_39
def fX10_word (fu : Nat) (S : hS) (a0 : Nat) (x1 : Int32) : Option (Int32 × hS) := if x1 < 0 then (some ((0 : Int32), S)) else ((gI S 9 0 (some a0)).bind fun v2 =>
if v2 ≤ x1 then (some ((0 : Int32), S)) else ((gR S 9 3 (some a0)).bind fun v6 =>
(aI S 10 v6 x1).bind fun v9 =>
some (v9, S)))
set_option maxHeartbeats 4000000 in
set_option maxRecDepth 100000 in
theorem mX10_word (l : Launch) (D : hD) (fu : Nat) (S : hS) (a0 : Nat) (x1 : Int32) (z : Int32 × hS) (h : fX10_word fu S a0 x1 = some z) : hM l D yX10_word cX10_word 2 (some .int) 0 0 0 0 [va_rf (some a0), .int x1] S (some (.int z.1)) z.2 := by
  refine h_body [.inr (some a0), .inl x1] RX10 (by decide) rfl (Nat.le_of_ble_eq_true rfl) ?_
  intro p e s m args below meth c C hin ls hV hl
  obtain ⟨-, hx, hb, hml, hown, hr, hlk, hK, hts⟩ := id C
  unfold fX10_word at h
  refine lv_iload_n hx hb dX10_word_0 rfl (hi_at hl 1 rfl) ?_
  refine lv_if_lt (tgt := 21) hx hb dX10_word_1 (by decide) (fun c1 => ?_) (fun c1 => ?_)
  · rw [if_pos c1] at h
    refine lv_iconst (v := 0) hx hb dX10_word_21 (by decide) ?_
    exact h_iret hx hb hr hlk hV h (Nat.le_of_ble_eq_true rfl) (Nat.le_of_ble_eq_true rfl) dX10_word_22
  · rw [if_neg c1] at h
    refine lv_iload_n hx hb dX10_word_4 rfl (hi_at hl 1 rfl) ?_
    refine hr_aload_n hx hb dX10_word_5 rfl (hr_at hl 0 rfl) ?_
    obtain ⟨v2, g3, h4⟩ := hbind h; clear h
    refine h_gI hx hb hown hV g3 (flRX10_59 hts hK) dX10_word_6 ?_
    refine lv_icmp_ge (tgt := 21) hx hb dX10_word_9 (by decide) (fun c5 => ?_) (fun c5 => ?_)
    · rw [if_pos c5] at h4
      refine lv_iconst (v := 0) hx hb dX10_word_21 (by decide) ?_
      exact h_iret hx hb hr hlk hV h4 (Nat.le_of_ble_eq_true rfl) (Nat.le_of_ble_eq_true rfl) dX10_word_22
    · rw [if_neg c5] at h4
      refine hr_aload_n hx hb dX10_word_12 rfl (hr_at hl 0 rfl) ?_
      obtain ⟨v6, g7, h8⟩ := hbind h4; clear h4
      refine h_gR hx hb hown hV g7 (flRX10_69 hts hK) dX10_word_13 ?_
      refine lv_iload_n hx hb dX10_word_16 rfl (hi_at hl 1 rfl) ?_
      obtain ⟨v9, g10, h11⟩ := hbind h8; clear h8
      refine h_iald hx hb hK hV g10 dX10_word_17 ?_
      refine lv_goto (tgt := 22) hx hb dX10_word_18 (by decide) ?_
      exact h_iret hx hb hr hlk hV h11 (Nat.le_of_ble_eq_true rfl) (Nat.le_of_ble_eq_true rfl) dX10_word_22
def fX10_ahead_70 (fu : Nat) (k16 : hS → Nat → Int32 → Int32 → Int32 → Option (Int32 × hS)) (S : hS) (a0 : Nat) (x1 : Int32) (x3 : Int32) (t0 : Int32) (t1 : Int32) : Option (Int32 × hS) := k16 S a0 x1 (t0 + t1) (x3 + (1 : Int32))
set_option maxHeartbeats 4000000 in
set_option maxRecDepth 100000 in
theorem kX10_ahead_70 {p : Program} {l : Launch} {e : Env} {s : State} {m : MethodId} {args : Array Value} {below : List Frame} {meth : Method} {c : Code} {D : hD} {S0 : hS} {z : Int32 × hS} (C : hCx p m c cX10_ahead 4 s args RX10 meth (some .int) D) (fu : Nat) (k16 : hS → Nat → Int32 → Int32 → Int32 → Option (Int32 × hS)) (hk16 : ∀ (S : hS) (a0 : Nat) (x1 : Int32) (x2 : Int32) (x3 : Int32) (H : Heap) (locs : List Loc) (ls : Array Slot), k16 S a0 x1 x2 x3 = some z → h_V D (h_A S0) s S H locs → hl_has ls 4 [(0, .inr (some a0)), (1, .inl x1), (2, .inl x2), (3, .inl x3)] → W p l e { frames := 0, cells := 0, slots := 0, locals := 0 } s m args below meth c H locs 0 0 (MQ below (h_Q D (h_A S0) (some (.int z.1)) z.2) args s 0 0 (h_A S0)) (F0 m 16 ls [])) : ∀ (S : hS) (a0 : Nat) (x1 : Int32) (x3 : Int32) (t0 : Int32) (t1 : Int32) (H : Heap) (locs : List Loc) (ls : Array Slot), fX10_ahead_70 fu k16 S a0 x1 x3 t0 t1 = some z → h_V D (h_A S0) s S H locs → hl_has ls 4 [(0, .inr (some a0)), (1, .inl x1), (3, .inl x3)] → W p l e { frames := 0, cells := 0, slots := 0, locals := 0 } s m args below meth c H locs 0 0 (MQ below (h_Q D (h_A S0) (some (.int z.1)) z.2) args s 0 0 (h_A S0)) (F0 m 70 ls [.int t1, .int t0]) := by
  obtain ⟨-, hx, hb, hml, hown, hr, hlk, hK, hts⟩ := id C
  intro S a0 x1 x3 t0 t1 _ _ _ h hV hl
  unfold fX10_ahead_70 at h
  refine lv_iadd hx hb dX10_ahead_70 ?_
  refine h_istore_n (tl' := [(2, .inl (t0 + t1)), (0, .inr (some a0)), (1, .inl x1), (3, .inl x3)]) hx hb dX10_ahead_71 rfl hl (by decide) rfl (fun ls hl => ?_)
  refine h_iinc (v := (x3 + (1 : Int32))) (tl' := [(3, .inl (x3 + (1 : Int32))), (2, .inl (t0 + t1)), (0, .inr (some a0)), (1, .inl x1)]) hx hb dX10_ahead_72 hl (k := 3) rfl rfl (by decide) rfl (fun ls hl => ?_)
  refine lv_goto (tgt := 16) hx hb dX10_ahead_75 (by decide) ?_
  exact hk16 S a0 x1 (t0 + t1) (x3 + (1 : Int32)) _ _ _ h hV (hl_sub hl [2, 3, 1, 0] rfl)
def fX10_ahead_69 (fu : Nat) (k16 : hS → Nat → Int32 → Int32 → Int32 → Option (Int32 × hS)) (S : hS) (a0 : Nat) (x1 : Int32) (x3 : Int32) (t0 : Int32) : Option (Int32 × hS) := fX10_ahead_70 fu k16 S a0 x1 x3 t0 (0 : Int32)
set_option maxHeartbeats 4000000 in
set_option maxRecDepth 100000 in
theorem kX10_ahead_69 {p : Program} {l : Launch} {e : Env} {s : State} {m : MethodId} {args : Array Value} {below : List Frame} {meth : Method} {c : Code} {D : hD} {S0 : hS} {z : Int32 × hS} (C : hCx p m c cX10_ahead 4 s args RX10 meth (some .int) D) (fu : Nat) (k16 : hS → Nat → Int32 → Int32 → Int32 → Option (Int32 × hS)) (hk16 : ∀ (S : hS) (a0 : Nat) (x1 : Int32) (x2 : Int32) (x3 : Int32) (H : Heap) (locs : List Loc) (ls : Array Slot), k16 S a0 x1 x2 x3 = some z → h_V D (h_A S0) s S H locs → hl_has ls 4 [(0, .inr (some a0)), (1, .inl x1), (2, .inl x2), (3, .inl x3)] → W p l e { frames := 0, cells := 0, slots := 0, locals := 0 } s m args below meth c H locs 0 0 (MQ below (h_Q D (h_A S0) (some (.int z.1)) z.2) args s 0 0 (h_A S0)) (F0 m 16 ls [])) : ∀ (S : hS) (a0 : Nat) (x1 : Int32) (x3 : Int32) (t0 : Int32) (H : Heap) (locs : List Loc) (ls : Array Slot), fX10_ahead_69 fu k16 S a0 x1 x3 t0 = some z → h_V D (h_A S0) s S H locs → hl_has ls 4 [(0, .inr (some a0)), (1, .inl x1), (3, .inl x3)] → W p l e { frames := 0, cells := 0, slots := 0, locals := 0 } s m args below meth c H locs 0 0 (MQ below (h_Q D (h_A S0) (some (.int z.1)) z.2) args s 0 0 (h_A S0)) (F0 m 69 ls [.int t0]) := by
  obtain ⟨-, hx, hb, hml, hown, hr, hlk, hK, hts⟩ := id C
  intro S a0 x1 x3 t0 _ _ _ h hV hl
  unfold fX10_ahead_69 at h
  refine lv_iconst (v := 0) hx hb dX10_ahead_69 (by decide) ?_
  exact kX10_ahead_70 C fu k16 hk16 S a0 x1 x3 t0 (0 : Int32) _ _ _ h hV (hl_sub hl [0, 1, 2] rfl)
def fX10_ahead_16 (fu : Nat) : Nat → hS → Nat → Int32 → Int32 → Int32 → Option (Int32 × hS)
  | 0, _, _, _, _, _ => none
  | n + 1, S, a0, x1, x2, x3 => (gI S 9 1 (some a0)).bind fun v1 => if v1 ≤ x3 then (some (x2, S)) else ((gR S 9 4 (some a0)).bind fun v5 =>
(aI S 10 v5 x3).bind fun v8 =>
if v8 = (2 : Int32) then ((gR S 9 7 (some a0)).bind fun v12 =>
(aI S 10 v12 x3).bind fun v15 =>
(gR S 9 7 (some a0)).bind fun v18 =>
(aI S 10 v18 x1).bind fun v21 =>
if v15 = v21 then ((gR S 9 11 (some a0)).bind fun v25 =>
(aI S 10 v25 x3).bind fun v28 =>
(gR S 9 11 (some a0)).bind fun v31 =>
(aI S 10 v31 x1).bind fun v34 =>
if v34 ≤ v28 then (fX10_ahead_69 fu (fX10_ahead_16 fu n) S a0 x1 x3 x2) else (fX10_ahead_70 fu (fX10_ahead_16 fu n) S a0 x1 x3 x2 (1 : Int32))) else (fX10_ahead_69 fu (fX10_ahead_16 fu n) S a0 x1 x3 x2)) else (fX10_ahead_69 fu (fX10_ahead_16 fu n) S a0 x1 x3 x2))
set_option maxHeartbeats 4000000 in
set_option maxRecDepth 100000 in
theorem kX10_ahead_16 {p : Program} {l : Launch} {e : Env} {s : State} {m : MethodId} {args : Array Value} {below : List Frame} {meth : Method} {c : Code} {D : hD} {S0 : hS} {z : Int32 × hS} (C : hCx p m c cX10_ahead 4 s args RX10 meth (some .int) D) (fu : Nat) : ∀ (n : Nat) (S : hS) (a0 : Nat) (x1 : Int32) (x2 : Int32) (x3 : Int32) (H : Heap) (locs : List Loc) (ls : Array Slot), fX10_ahead_16 fu n S a0 x1 x2 x3 = some z → h_V D (h_A S0) s S H locs → hl_has ls 4 [(0, .inr (some a0)), (1, .inl x1), (2, .inl x2), (3, .inl x3)] → W p l e { frames := 0, cells := 0, slots := 0, locals := 0 } s m args below meth c H locs 0 0 (MQ below (h_Q D (h_A S0) (some (.int z.1)) z.2) args s 0 0 (h_A S0)) (F0 m 16 ls []) := by
  obtain ⟨-, hx, hb, hml, hown, hr, hlk, hK, hts⟩ := id C
  intro n
  induction n with
  | zero =>
    intro S a0 x1 x2 x3 _ _ _ h hV hl
    rw [fX10_ahead_16] at h
    cases h
  | succ n ih =>
    intro S a0 x1 x2 x3 _ _ _ h hV hl
    rw [fX10_ahead_16] at h
    refine lv_iload_n hx hb dX10_ahead_16 rfl (hi_at hl 3 rfl) ?_
    refine hr_aload_n hx hb dX10_ahead_17 rfl (hr_at hl 0 rfl) ?_
    obtain ⟨v1, g2, h3⟩ := hbind h; clear h
    refine h_gI hx hb hown hV g2 (flRX10_63 hts hK) dX10_ahead_18 ?_
    refine lv_icmp_ge (tgt := 78) hx hb dX10_ahead_21 (by decide) (fun c4 => ?_) (fun c4 => ?_)
    · rw [if_pos c4] at h3
      refine lv_iload_n hx hb dX10_ahead_78 rfl (hi_at hl 2 rfl) ?_
      exact h_iret hx hb hr hlk hV h3 (Nat.le_of_ble_eq_true rfl) (Nat.le_of_ble_eq_true rfl) dX10_ahead_79
    · rw [if_neg c4] at h3
      refine lv_iload_n hx hb dX10_ahead_24 rfl (hi_at hl 2 rfl) ?_
      refine hr_aload_n hx hb dX10_ahead_25 rfl (hr_at hl 0 rfl) ?_
      obtain ⟨v5, g6, h7⟩ := hbind h3; clear h3
      refine h_gR hx hb hown hV g6 (flRX10_9 hts hK) dX10_ahead_26 ?_
      refine lv_iload_n hx hb dX10_ahead_29 rfl (hi_at hl 3 rfl) ?_
      obtain ⟨v8, g9, h10⟩ := hbind h7; clear h7
      refine h_iald hx hb hK hV g9 dX10_ahead_30 ?_
      refine lv_iconst (v := 2) hx hb dX10_ahead_31 (by decide) ?_
      refine lv_icmp_ne (tgt := 69) hx hb dX10_ahead_32 (by decide) (fun c11 => ?_) (fun c11 => ?_)
      · rw [if_neg c11] at h10
        exact kX10_ahead_69 C fu (fX10_ahead_16 fu n) ih S a0 x1 x3 x2 _ _ _ h10 hV (hl_sub hl [0, 1, 3] rfl)
      · rw [if_pos c11] at h10
        refine hr_aload_n hx hb dX10_ahead_35 rfl (hr_at hl 0 rfl) ?_
        obtain ⟨v12, g13, h14⟩ := hbind h10; clear h10
        refine h_gR hx hb hown hV g13 (flRX10_19 hts hK) dX10_ahead_36 ?_
        refine lv_iload_n hx hb dX10_ahead_39 rfl (hi_at hl 3 rfl) ?_
        obtain ⟨v15, g16, h17⟩ := hbind h14; clear h14
        refine h_iald hx hb hK hV g16 dX10_ahead_40 ?_
        refine hr_aload_n hx hb dX10_ahead_41 rfl (hr_at hl 0 rfl) ?_
        obtain ⟨v18, g19, h20⟩ := hbind h17; clear h17
        refine h_gR hx hb hown hV g19 (flRX10_19 hts hK) dX10_ahead_42 ?_
        refine lv_iload_n hx hb dX10_ahead_45 rfl (hi_at hl 1 rfl) ?_
        obtain ⟨v21, g22, h23⟩ := hbind h20; clear h20
        refine h_iald hx hb hK hV g22 dX10_ahead_46 ?_
        refine lv_icmp_ne (tgt := 69) hx hb dX10_ahead_47 (by decide) (fun c24 => ?_) (fun c24 => ?_)
        · rw [if_neg c24] at h23
          exact kX10_ahead_69 C fu (fX10_ahead_16 fu n) ih S a0 x1 x3 x2 _ _ _ h23 hV (hl_sub hl [0, 1, 3] rfl)
        · rw [if_pos c24] at h23
          refine hr_aload_n hx hb dX10_ahead_50 rfl (hr_at hl 0 rfl) ?_
          obtain ⟨v25, g26, h27⟩ := hbind h23; clear h23
          refine h_gR hx hb hown hV g26 (flRX10_31 hts hK) dX10_ahead_51 ?_
          refine lv_iload_n hx hb dX10_ahead_54 rfl (hi_at hl 3 rfl) ?_
          obtain ⟨v28, g29, h30⟩ := hbind h27; clear h27
          refine h_iald hx hb hK hV g29 dX10_ahead_55 ?_
          refine hr_aload_n hx hb dX10_ahead_56 rfl (hr_at hl 0 rfl) ?_
          obtain ⟨v31, g32, h33⟩ := hbind h30; clear h30
          refine h_gR hx hb hown hV g32 (flRX10_31 hts hK) dX10_ahead_57 ?_
          refine lv_iload_n hx hb dX10_ahead_60 rfl (hi_at hl 1 rfl) ?_
          obtain ⟨v34, g35, h36⟩ := hbind h33; clear h33
          refine h_iald hx hb hK hV g35 dX10_ahead_61 ?_
          refine lv_icmp_ge (tgt := 69) hx hb dX10_ahead_62 (by decide) (fun c37 => ?_) (fun c37 => ?_)
          · rw [if_pos c37] at h36
            exact kX10_ahead_69 C fu (fX10_ahead_16 fu n) ih S a0 x1 x3 x2 _ _ _ h36 hV (hl_sub hl [0, 1, 3] rfl)
          · rw [if_neg c37] at h36
            refine lv_iconst (v := 1) hx hb dX10_ahead_65 (by decide) ?_
            refine lv_goto (tgt := 70) hx hb dX10_ahead_66 (by decide) ?_
            exact kX10_ahead_70 C fu (fX10_ahead_16 fu n) ih S a0 x1 x3 x2 (1 : Int32) _ _ _ h36 hV (hl_sub hl [0, 1, 3] rfl)
def fX10_ahead (fu : Nat) (S : hS) (a0 : Nat) (x1 : Int32) : Option (Int32 × hS) := (gR S 9 4 (some a0)).bind fun v1 => (aI S 10 v1 x1).bind fun v4 => if v4 = (2 : Int32) then (fX10_ahead_16 fu fu S a0 x1 (0 : Int32) (0 : Int32)) else (some ((-1 : Int32), S))
set_option maxHeartbeats 4000000 in
set_option maxRecDepth 100000 in
theorem mX10_ahead (l : Launch) (D : hD) (fu : Nat) (S : hS) (a0 : Nat) (x1 : Int32) (z : Int32 × hS) (h : fX10_ahead fu S a0 x1 = some z) : hM l D yX10_ahead cX10_ahead 4 (some .int) 0 0 0 0 [va_rf (some a0), .int x1] S (some (.int z.1)) z.2 := by
  refine h_body [.inr (some a0), .inl x1] RX10 (by decide) rfl (Nat.le_of_ble_eq_true rfl) ?_
  intro p e s m args below meth c C hin ls hV hl
  obtain ⟨-, hx, hb, hml, hown, hr, hlk, hK, hts⟩ := id C
  unfold fX10_ahead at h
  refine hr_aload_n hx hb dX10_ahead_0 rfl (hr_at hl 0 rfl) ?_
  obtain ⟨v1, g2, h3⟩ := hbind h; clear h
  refine h_gR hx hb hown hV g2 (flRX10_9 hts hK) dX10_ahead_1 ?_
  refine lv_iload_n hx hb dX10_ahead_4 rfl (hi_at hl 1 rfl) ?_
  obtain ⟨v4, g5, h6⟩ := hbind h3; clear h3
  refine h_iald hx hb hK hV g5 dX10_ahead_5 ?_
  refine lv_iconst (v := 2) hx hb dX10_ahead_6 (by decide) ?_
  refine lv_icmp_eq (tgt := 12) hx hb dX10_ahead_7 (by decide) (fun c7 => ?_) (fun c7 => ?_)
  · rw [if_pos c7] at h6
    refine lv_iconst (v := 0) hx hb dX10_ahead_12 (by decide) ?_
    refine h_istore_n (tl' := [(2, .inl (0 : Int32)), (0, .inr (some a0)), (1, .inl x1)]) hx hb dX10_ahead_13 rfl hl (by decide) rfl (fun ls hl => ?_)
    refine lv_iconst (v := 0) hx hb dX10_ahead_14 (by decide) ?_
    refine h_istore_n (tl' := [(3, .inl (0 : Int32)), (2, .inl (0 : Int32)), (0, .inr (some a0)), (1, .inl x1)]) hx hb dX10_ahead_15 rfl hl (by decide) rfl (fun ls hl => ?_)
    exact kX10_ahead_16 C fu fu S a0 x1 (0 : Int32) (0 : Int32) _ _ _ h6 hV (hl_sub hl [2, 3, 1, 0] rfl)
  · rw [if_neg c7] at h6
    refine lv_iconst (v := -1) hx hb dX10_ahead_10 (by decide) ?_
    exact h_iret hx hb hr hlk hV h6 (Nat.le_of_ble_eq_true rfl) (Nat.le_of_ble_eq_true rfl) dX10_ahead_11
def fX10_job (fu : Nat) (S : hS) (a0 : Nat) (x1 : Int32) (x2 : Int32) : Option (Int32 × hS) := (rcv S 9 (some a0)).bind fun b3 => bn2 (fX10_isJob fu S b3 x1) fun r1 S2 => if r1 = 0 then (some ((-1 : Int32), S2)) else (if x2 = 0 then ((gR S2 9 5 (some a0)).bind fun v11 =>
(aI S2 10 v11 x1).bind fun v14 =>
some (v14, S2)) else if x2 = 1 then ((gR S2 9 6 (some a0)).bind fun v18 =>
(aI S2 10 v18 x1).bind fun v21 =>
some (v21, S2)) else if x2 = 2 then ((gR S2 9 7 (some a0)).bind fun v25 =>
(aI S2 10 v25 x1).bind fun v28 =>
some (v28, S2)) else if x2 = 3 then ((gR S2 9 8 (some a0)).bind fun v32 =>
(aI S2 10 v32 x1).bind fun v35 =>
some (v35, S2)) else if x2 = 4 then ((gR S2 9 9 (some a0)).bind fun v39 =>
(aI S2 10 v39 x1).bind fun v42 =>
some (v42, S2)) else if x2 = 5 then ((gR S2 9 10 (some a0)).bind fun v46 =>
(aI S2 10 v46 x1).bind fun v49 =>
some (v49, S2)) else if x2 = 6 then ((rcv S2 9 (some a0)).bind fun b55 =>
bn2 (fX10_ahead fu S2 b55 x1) fun r53 S54 =>
some (r53, S54)) else if x2 = 7 then ((gR S2 9 12 (some a0)).bind fun v62 =>
(aI S2 10 v62 x1).bind fun v65 =>
some (v65, S2)) else if x2 = 8 then ((gR S2 9 13 (some a0)).bind fun v69 =>
(aI S2 10 v69 x1).bind fun v72 =>
some (v72, S2)) else (some ((-1 : Int32), S2)))
set_option maxHeartbeats 4000000 in
set_option maxRecDepth 100000 in
theorem mX10_job (l : Launch) (D : hD) (fu : Nat) (S : hS) (a0 : Nat) (x1 : Int32) (x2 : Int32) (z : Int32 × hS) (h : fX10_job fu S a0 x1 x2 = some z) : hM l D yX10_job cX10_job 3 (some .int) 2 42 0 0 [va_rf (some a0), .int x1, .int x2] S (some (.int z.1)) z.2 := by
  refine h_body [.inr (some a0), .inl x1, .inl x2] RX10 (by decide) rfl (Nat.le_of_ble_eq_true rfl) ?_
  intro p e s m args below meth c C hin ls hV hl
  obtain ⟨-, hx, hb, hml, hown, hr, hlk, hK, hts⟩ := id C
  unfold fX10_job at h
  refine hr_aload_n hx hb dX10_job_0 rfl (hr_at hl 0 rfl) ?_
  refine lv_iload_n hx hb dX10_job_1 rfl (hi_at hl 1 rfl) ?_
  obtain ⟨b3, g4, h5⟩ := hbind h; clear h
  obtain ⟨_, _, e6, q6⟩ := rcv_inv g4
  obtain ⟨r1, S2, g7, h8⟩ := hbn2 h5; clear h5
  refine h_callV (n := 1) (As := [.int x1]) (rest := []) (st1 := [.int r1]) (fr := 1) (lo := 21) (mc := 0) (ms := 0) C.1 hK hV q6 rfl rfl wd839 wd836 wd838 wd50 wd83 ⟨by decide, by decide, by decide⟩ ⟨(Nat.le_of_ble_eq_true rfl), (Nat.le_of_ble_eq_true rfl)⟩ rfl hl.1 (hW_ok [] (Nat.le_of_ble_eq_true rfl)) dX10_job_2 ⟨(Nat.le_of_ble_eq_true rfl), (Nat.le_of_ble_eq_true rfl)⟩ rfl (by rw [e6]; rfl) (mX10_isJob l D fu S b3 x1 _ g7) (fun H locs hV => ?_)
  refine lv_if_ne (tgt := 10) hx hb dX10_job_5 (by decide) (fun c9 => ?_) (fun c9 => ?_)
  · rw [if_neg c9] at h8
    refine lv_iload_n hx hb dX10_job_10 rfl (hi_at hl 2 rfl) ?_
    by_cases c10 : x2 = 0
    · rw [if_pos c10] at h8
      refine lv_tableIn (off := 49) (tgt := 60) hx hb dX10_job_11 (by rw [c10]; decide) (by rw [c10]; decide) (by rw [c10]; rfl) (by decide) ?_
      refine hr_aload_n hx hb dX10_job_60 rfl (hr_at hl 0 rfl) ?_
      obtain ⟨v11, g12, h13⟩ := hbind h8; clear h8
      refine h_gR hx hb hown hV g12 (flRX10_13 hts hK) dX10_job_61 ?_
      refine lv_iload_n hx hb dX10_job_64 rfl (hi_at hl 1 rfl) ?_
      obtain ⟨v14, g15, h16⟩ := hbind h13; clear h13
      refine h_iald hx hb hK hV g15 dX10_job_65 ?_
      exact h_iret hx hb hr hlk hV h16 (Nat.le_of_ble_eq_true rfl) (Nat.le_of_ble_eq_true rfl) dX10_job_66
    · rw [if_neg c10] at h8
      by_cases c17 : x2 = 1
      · rw [if_pos c17] at h8
        refine lv_tableIn (off := 56) (tgt := 67) hx hb dX10_job_11 (by rw [c17]; decide) (by rw [c17]; decide) (by rw [c17]; rfl) (by decide) ?_
        refine hr_aload_n hx hb dX10_job_67 rfl (hr_at hl 0 rfl) ?_
        obtain ⟨v18, g19, h20⟩ := hbind h8; clear h8
        refine h_gR hx hb hown hV g19 (flRX10_16 hts hK) dX10_job_68 ?_
        refine lv_iload_n hx hb dX10_job_71 rfl (hi_at hl 1 rfl) ?_
        obtain ⟨v21, g22, h23⟩ := hbind h20; clear h20
        refine h_iald hx hb hK hV g22 dX10_job_72 ?_
        exact h_iret hx hb hr hlk hV h23 (Nat.le_of_ble_eq_true rfl) (Nat.le_of_ble_eq_true rfl) dX10_job_73
      · rw [if_neg c17] at h8
        by_cases c24 : x2 = 2
        · rw [if_pos c24] at h8
          refine lv_tableIn (off := 63) (tgt := 74) hx hb dX10_job_11 (by rw [c24]; decide) (by rw [c24]; decide) (by rw [c24]; rfl) (by decide) ?_
          refine hr_aload_n hx hb dX10_job_74 rfl (hr_at hl 0 rfl) ?_
          obtain ⟨v25, g26, h27⟩ := hbind h8; clear h8
          refine h_gR hx hb hown hV g26 (flRX10_19 hts hK) dX10_job_75 ?_
          refine lv_iload_n hx hb dX10_job_78 rfl (hi_at hl 1 rfl) ?_
          obtain ⟨v28, g29, h30⟩ := hbind h27; clear h27
          refine h_iald hx hb hK hV g29 dX10_job_79 ?_
          exact h_iret hx hb hr hlk hV h30 (Nat.le_of_ble_eq_true rfl) (Nat.le_of_ble_eq_true rfl) dX10_job_80
        · rw [if_neg c24] at h8
          by_cases c31 : x2 = 3
          · rw [if_pos c31] at h8
            refine lv_tableIn (off := 70) (tgt := 81) hx hb dX10_job_11 (by rw [c31]; decide) (by rw [c31]; decide) (by rw [c31]; rfl) (by decide) ?_
            refine hr_aload_n hx hb dX10_job_81 rfl (hr_at hl 0 rfl) ?_
            obtain ⟨v32, g33, h34⟩ := hbind h8; clear h8
            refine h_gR hx hb hown hV g33 (flRX10_22 hts hK) dX10_job_82 ?_
            refine lv_iload_n hx hb dX10_job_85 rfl (hi_at hl 1 rfl) ?_
            obtain ⟨v35, g36, h37⟩ := hbind h34; clear h34
            refine h_iald hx hb hK hV g36 dX10_job_86 ?_
            exact h_iret hx hb hr hlk hV h37 (Nat.le_of_ble_eq_true rfl) (Nat.le_of_ble_eq_true rfl) dX10_job_87
          · rw [if_neg c31] at h8
            by_cases c38 : x2 = 4
            · rw [if_pos c38] at h8
              refine lv_tableIn (off := 77) (tgt := 88) hx hb dX10_job_11 (by rw [c38]; decide) (by rw [c38]; decide) (by rw [c38]; rfl) (by decide) ?_
              refine hr_aload_n hx hb dX10_job_88 rfl (hr_at hl 0 rfl) ?_
              obtain ⟨v39, g40, h41⟩ := hbind h8; clear h8
              refine h_gR hx hb hown hV g40 (flRX10_25 hts hK) dX10_job_89 ?_
              refine lv_iload_n hx hb dX10_job_92 rfl (hi_at hl 1 rfl) ?_
              obtain ⟨v42, g43, h44⟩ := hbind h41; clear h41
              refine h_iald hx hb hK hV g43 dX10_job_93 ?_
              exact h_iret hx hb hr hlk hV h44 (Nat.le_of_ble_eq_true rfl) (Nat.le_of_ble_eq_true rfl) dX10_job_94
            · rw [if_neg c38] at h8
              by_cases c45 : x2 = 5
              · rw [if_pos c45] at h8
                refine lv_tableIn (off := 84) (tgt := 95) hx hb dX10_job_11 (by rw [c45]; decide) (by rw [c45]; decide) (by rw [c45]; rfl) (by decide) ?_
                refine hr_aload_n hx hb dX10_job_95 rfl (hr_at hl 0 rfl) ?_
                obtain ⟨v46, g47, h48⟩ := hbind h8; clear h8
                refine h_gR hx hb hown hV g47 (flRX10_28 hts hK) dX10_job_96 ?_
                refine lv_iload_n hx hb dX10_job_99 rfl (hi_at hl 1 rfl) ?_
                obtain ⟨v49, g50, h51⟩ := hbind h48; clear h48
                refine h_iald hx hb hK hV g50 dX10_job_100 ?_
                exact h_iret hx hb hr hlk hV h51 (Nat.le_of_ble_eq_true rfl) (Nat.le_of_ble_eq_true rfl) dX10_job_101
              · rw [if_neg c45] at h8
                by_cases c52 : x2 = 6
                · rw [if_pos c52] at h8
                  refine lv_tableIn (off := 91) (tgt := 102) hx hb dX10_job_11 (by rw [c52]; decide) (by rw [c52]; decide) (by rw [c52]; rfl) (by decide) ?_
                  refine hr_aload_n hx hb dX10_job_102 rfl (hr_at hl 0 rfl) ?_
                  refine lv_iload_n hx hb dX10_job_103 rfl (hi_at hl 1 rfl) ?_
                  obtain ⟨b55, g56, h57⟩ := hbind h8; clear h8
                  obtain ⟨_, _, e58, q58⟩ := rcv_inv g56
                  obtain ⟨r53, S54, g59, h60⟩ := hbn2 h57; clear h57
                  refine h_callV (n := 1) (As := [.int x1]) (rest := []) (st1 := [.int r53]) (fr := 0) (lo := 0) (mc := 0) (ms := 0) C.1 hK hV q58 rfl rfl wd988 wd985 wd987 wd75 wd83 ⟨by decide, by decide, by decide⟩ ⟨(Nat.le_of_ble_eq_true rfl), (Nat.le_of_ble_eq_true rfl)⟩ rfl hl.1 (hW_ok [] (Nat.le_of_ble_eq_true rfl)) dX10_job_104 ⟨(Nat.le_of_ble_eq_true rfl), (Nat.le_of_ble_eq_true rfl)⟩ rfl (by rw [e58]; rfl) (mX10_ahead l D fu S2 b55 x1 _ g59) (fun H locs hV => ?_)
                  exact h_iret hx hb hr hlk hV h60 (Nat.le_of_ble_eq_true rfl) (Nat.le_of_ble_eq_true rfl) dX10_job_107
                · rw [if_neg c52] at h8
                  by_cases c61 : x2 = 7
                  · rw [if_pos c61] at h8
                    refine lv_tableIn (off := 97) (tgt := 108) hx hb dX10_job_11 (by rw [c61]; decide) (by rw [c61]; decide) (by rw [c61]; rfl) (by decide) ?_
                    refine hr_aload_n hx hb dX10_job_108 rfl (hr_at hl 0 rfl) ?_
                    obtain ⟨v62, g63, h64⟩ := hbind h8; clear h8
                    refine h_gR hx hb hown hV g63 (flRX10_34 hts hK) dX10_job_109 ?_
                    refine lv_iload_n hx hb dX10_job_112 rfl (hi_at hl 1 rfl) ?_
                    obtain ⟨v65, g66, h67⟩ := hbind h64; clear h64
                    refine h_iald hx hb hK hV g66 dX10_job_113 ?_
                    exact h_iret hx hb hr hlk hV h67 (Nat.le_of_ble_eq_true rfl) (Nat.le_of_ble_eq_true rfl) dX10_job_114
                  · rw [if_neg c61] at h8
                    by_cases c68 : x2 = 8
                    · rw [if_pos c68] at h8
                      refine lv_tableIn (off := 104) (tgt := 115) hx hb dX10_job_11 (by rw [c68]; decide) (by rw [c68]; decide) (by rw [c68]; rfl) (by decide) ?_
                      refine hr_aload_n hx hb dX10_job_115 rfl (hr_at hl 0 rfl) ?_
                      obtain ⟨v69, g70, h71⟩ := hbind h8; clear h8
                      refine h_gR hx hb hown hV g70 (flRX10_37 hts hK) dX10_job_116 ?_
                      refine lv_iload_n hx hb dX10_job_119 rfl (hi_at hl 1 rfl) ?_
                      obtain ⟨v72, g73, h74⟩ := hbind h71; clear h71
                      refine h_iald hx hb hK hV g73 dX10_job_120 ?_
                      exact h_iret hx hb hr hlk hV h74 (Nat.le_of_ble_eq_true rfl) (Nat.le_of_ble_eq_true rfl) dX10_job_121
                    · rw [if_neg c68] at h8
                      have ec10 : (x2).toInt ≠ 0 := h_tinj (k := 0) c10
                      have ec17 : (x2).toInt ≠ 1 := h_tinj (k := 1) c17
                      have ec24 : (x2).toInt ≠ 2 := h_tinj (k := 2) c24
                      have ec31 : (x2).toInt ≠ 3 := h_tinj (k := 3) c31
                      have ec38 : (x2).toInt ≠ 4 := h_tinj (k := 4) c38
                      have ec45 : (x2).toInt ≠ 5 := h_tinj (k := 5) c45
                      have ec52 : (x2).toInt ≠ 6 := h_tinj (k := 6) c52
                      have ec61 : (x2).toInt ≠ 7 := h_tinj (k := 7) c61
                      have ec68 : (x2).toInt ≠ 8 := h_tinj (k := 8) c68
                      refine lv_tableOut (tgt := 122) hx hb dX10_job_11 (by omega) (by decide) ?_
                      refine lv_iconst (v := -1) hx hb dX10_job_122 (by decide) ?_
                      exact h_iret hx hb hr hlk hV h8 (Nat.le_of_ble_eq_true rfl) (Nat.le_of_ble_eq_true rfl) dX10_job_123
  · rw [if_pos c9] at h8
    refine lv_iconst (v := -1) hx hb dX10_job_8 (by decide) ?_
    exact h_iret hx hb hr hlk hV h8 (Nat.le_of_ble_eq_true rfl) (Nat.le_of_ble_eq_true rfl) dX10_job_9
def fX10_count_123 (fu : Nat) (k99 : hS → Nat → Int32 → Int32 → Option (Int32 × hS)) (S : hS) (a0 : Nat) (x3 : Int32) (t0 : Int32) (t1 : Int32) : Option (Int32 × hS) := k99 S a0 (t0 + t1) (x3 + (1 : Int32))
set_option maxHeartbeats 4000000 in
set_option maxRecDepth 100000 in
theorem kX10_count_123 {p : Program} {l : Launch} {e : Env} {s : State} {m : MethodId} {args : Array Value} {below : List Frame} {meth : Method} {c : Code} {D : hD} {S0 : hS} {z : Int32 × hS} (C : hCx p m c cX10_count 4 s args RX10 meth (some .int) D) (fu : Nat) (k99 : hS → Nat → Int32 → Int32 → Option (Int32 × hS)) (hk99 : ∀ (S : hS) (a0 : Nat) (x2 : Int32) (x3 : Int32) (H : Heap) (locs : List Loc) (ls : Array Slot), k99 S a0 x2 x3 = some z → h_V D (h_A S0) s S H locs → hl_has ls 4 [(0, .inr (some a0)), (2, .inl x2), (3, .inl x3)] → W p l e { frames := 3, cells := 0, slots := 0, locals := 72 } s m args below meth c H locs 0 0 (MQ below (h_Q D (h_A S0) (some (.int z.1)) z.2) args s 0 0 (h_A S0)) (F0 m 99 ls [])) : ∀ (S : hS) (a0 : Nat) (x3 : Int32) (t0 : Int32) (t1 : Int32) (H : Heap) (locs : List Loc) (ls : Array Slot), fX10_count_123 fu k99 S a0 x3 t0 t1 = some z → h_V D (h_A S0) s S H locs → hl_has ls 4 [(0, .inr (some a0)), (3, .inl x3)] → W p l e { frames := 3, cells := 0, slots := 0, locals := 72 } s m args below meth c H locs 0 0 (MQ below (h_Q D (h_A S0) (some (.int z.1)) z.2) args s 0 0 (h_A S0)) (F0 m 123 ls [.int t1, .int t0]) := by
  obtain ⟨-, hx, hb, hml, hown, hr, hlk, hK, hts⟩ := id C
  intro S a0 x3 t0 t1 _ _ _ h hV hl
  unfold fX10_count_123 at h
  refine lv_iadd hx hb dX10_count_123 ?_
  refine h_istore_n (tl' := [(2, .inl (t0 + t1)), (0, .inr (some a0)), (3, .inl x3)]) hx hb dX10_count_124 rfl hl (by decide) rfl (fun ls hl => ?_)
  refine h_iinc (v := (x3 + (1 : Int32))) (tl' := [(3, .inl (x3 + (1 : Int32))), (2, .inl (t0 + t1)), (0, .inr (some a0))]) hx hb dX10_count_125 hl (k := 2) rfl rfl (by decide) rfl (fun ls hl => ?_)
  refine lv_goto (tgt := 99) hx hb dX10_count_128 (by decide) ?_
  exact hk99 S a0 (t0 + t1) (x3 + (1 : Int32)) _ _ _ h hV (hl_sub hl [2, 1, 0] rfl)
def fX10_count_99 (fu : Nat) : Nat → hS → Nat → Int32 → Int32 → Option (Int32 × hS)
  | 0, _, _, _, _ => none
  | n + 1, S, a0, x2, x3 => (gI S 9 1 (some a0)).bind fun v1 => if v1 ≤ x3 then (some (x2, S)) else ((gR S 9 4 (some a0)).bind fun v5 =>
(aI S 10 v5 x3).bind fun v8 =>
if v8 = (2 : Int32) then (fX10_count_123 fu (fX10_count_99 fu n) S a0 x3 x2 (1 : Int32)) else (fX10_count_123 fu (fX10_count_99 fu n) S a0 x3 x2 (0 : Int32)))
set_option maxHeartbeats 4000000 in
set_option maxRecDepth 100000 in
theorem kX10_count_99 {p : Program} {l : Launch} {e : Env} {s : State} {m : MethodId} {args : Array Value} {below : List Frame} {meth : Method} {c : Code} {D : hD} {S0 : hS} {z : Int32 × hS} (C : hCx p m c cX10_count 4 s args RX10 meth (some .int) D) (fu : Nat) : ∀ (n : Nat) (S : hS) (a0 : Nat) (x2 : Int32) (x3 : Int32) (H : Heap) (locs : List Loc) (ls : Array Slot), fX10_count_99 fu n S a0 x2 x3 = some z → h_V D (h_A S0) s S H locs → hl_has ls 4 [(0, .inr (some a0)), (2, .inl x2), (3, .inl x3)] → W p l e { frames := 3, cells := 0, slots := 0, locals := 72 } s m args below meth c H locs 0 0 (MQ below (h_Q D (h_A S0) (some (.int z.1)) z.2) args s 0 0 (h_A S0)) (F0 m 99 ls []) := by
  obtain ⟨-, hx, hb, hml, hown, hr, hlk, hK, hts⟩ := id C
  intro n
  induction n with
  | zero =>
    intro S a0 x2 x3 _ _ _ h hV hl
    rw [fX10_count_99] at h
    cases h
  | succ n ih =>
    intro S a0 x2 x3 _ _ _ h hV hl
    rw [fX10_count_99] at h
    refine lv_iload_n hx hb dX10_count_99 rfl (hi_at hl 2 rfl) ?_
    refine hr_aload_n hx hb dX10_count_100 rfl (hr_at hl 0 rfl) ?_
    obtain ⟨v1, g2, h3⟩ := hbind h; clear h
    refine h_gI hx hb hown hV g2 (flRX10_63 hts hK) dX10_count_101 ?_
    refine lv_icmp_ge (tgt := 131) hx hb dX10_count_104 (by decide) (fun c4 => ?_) (fun c4 => ?_)
    · rw [if_pos c4] at h3
      refine lv_iload_n hx hb dX10_count_131 rfl (hi_at hl 1 rfl) ?_
      exact h_iret hx hb hr hlk hV h3 (Nat.le_of_ble_eq_true rfl) (Nat.le_of_ble_eq_true rfl) dX10_count_132
    · rw [if_neg c4] at h3
      refine lv_iload_n hx hb dX10_count_107 rfl (hi_at hl 1 rfl) ?_
      refine hr_aload_n hx hb dX10_count_108 rfl (hr_at hl 0 rfl) ?_
      obtain ⟨v5, g6, h7⟩ := hbind h3; clear h3
      refine h_gR hx hb hown hV g6 (flRX10_9 hts hK) dX10_count_109 ?_
      refine lv_iload_n hx hb dX10_count_112 rfl (hi_at hl 2 rfl) ?_
      obtain ⟨v8, g9, h10⟩ := hbind h7; clear h7
      refine h_iald hx hb hK hV g9 dX10_count_113 ?_
      refine lv_iconst (v := 2) hx hb dX10_count_114 (by decide) ?_
      refine lv_icmp_ne (tgt := 122) hx hb dX10_count_115 (by decide) (fun c11 => ?_) (fun c11 => ?_)
      · rw [if_neg c11] at h10
        refine lv_iconst (v := 0) hx hb dX10_count_122 (by decide) ?_
        exact kX10_count_123 C fu (fX10_count_99 fu n) ih S a0 x3 x2 (0 : Int32) _ _ _ h10 hV (hl_sub hl [0, 2] rfl)
      · rw [if_pos c11] at h10
        refine lv_iconst (v := 1) hx hb dX10_count_118 (by decide) ?_
        refine lv_goto (tgt := 123) hx hb dX10_count_119 (by decide) ?_
        exact kX10_count_123 C fu (fX10_count_99 fu n) ih S a0 x3 x2 (1 : Int32) _ _ _ h10 hV (hl_sub hl [0, 2] rfl)
def fX10_count_87 (fu : Nat) (k65 : hS → Nat → Int32 → Int32 → Option (Int32 × hS)) (S : hS) (a0 : Nat) (x3 : Int32) (t0 : Int32) (t1 : Int32) : Option (Int32 × hS) := k65 S a0 (t0 + t1) (x3 + (1 : Int32))
set_option maxHeartbeats 4000000 in
set_option maxRecDepth 100000 in
theorem kX10_count_87 {p : Program} {l : Launch} {e : Env} {s : State} {m : MethodId} {args : Array Value} {below : List Frame} {meth : Method} {c : Code} {D : hD} {S0 : hS} {z : Int32 × hS} (C : hCx p m c cX10_count 4 s args RX10 meth (some .int) D) (fu : Nat) (k65 : hS → Nat → Int32 → Int32 → Option (Int32 × hS)) (hk65 : ∀ (S : hS) (a0 : Nat) (x2 : Int32) (x3 : Int32) (H : Heap) (locs : List Loc) (ls : Array Slot), k65 S a0 x2 x3 = some z → h_V D (h_A S0) s S H locs → hl_has ls 4 [(0, .inr (some a0)), (2, .inl x2), (3, .inl x3)] → W p l e { frames := 3, cells := 0, slots := 0, locals := 72 } s m args below meth c H locs 0 0 (MQ below (h_Q D (h_A S0) (some (.int z.1)) z.2) args s 0 0 (h_A S0)) (F0 m 65 ls [])) : ∀ (S : hS) (a0 : Nat) (x3 : Int32) (t0 : Int32) (t1 : Int32) (H : Heap) (locs : List Loc) (ls : Array Slot), fX10_count_87 fu k65 S a0 x3 t0 t1 = some z → h_V D (h_A S0) s S H locs → hl_has ls 4 [(0, .inr (some a0)), (3, .inl x3)] → W p l e { frames := 3, cells := 0, slots := 0, locals := 72 } s m args below meth c H locs 0 0 (MQ below (h_Q D (h_A S0) (some (.int z.1)) z.2) args s 0 0 (h_A S0)) (F0 m 87 ls [.int t1, .int t0]) := by
  obtain ⟨-, hx, hb, hml, hown, hr, hlk, hK, hts⟩ := id C
  intro S a0 x3 t0 t1 _ _ _ h hV hl
  unfold fX10_count_87 at h
  refine lv_iadd hx hb dX10_count_87 ?_
  refine h_istore_n (tl' := [(2, .inl (t0 + t1)), (0, .inr (some a0)), (3, .inl x3)]) hx hb dX10_count_88 rfl hl (by decide) rfl (fun ls hl => ?_)
  refine h_iinc (v := (x3 + (1 : Int32))) (tl' := [(3, .inl (x3 + (1 : Int32))), (2, .inl (t0 + t1)), (0, .inr (some a0))]) hx hb dX10_count_89 hl (k := 2) rfl rfl (by decide) rfl (fun ls hl => ?_)
  refine lv_goto (tgt := 65) hx hb dX10_count_92 (by decide) ?_
  exact hk65 S a0 (t0 + t1) (x3 + (1 : Int32)) _ _ _ h hV (hl_sub hl [2, 1, 0] rfl)
def fX10_count_65 (fu : Nat) : Nat → hS → Nat → Int32 → Int32 → Option (Int32 × hS)
  | 0, _, _, _, _ => none
  | n + 1, S, a0, x2, x3 => (gI S 9 1 (some a0)).bind fun v1 => if v1 ≤ x3 then (some (x2, S)) else ((rcv S 9 (some a0)).bind fun b7 =>
bn2 (fX10_has fu S b7 x3) fun r5 S6 =>
if r5 = 0 then (fX10_count_87 fu (fX10_count_65 fu n) S6 a0 x3 x2 (0 : Int32)) else (fX10_count_87 fu (fX10_count_65 fu n) S6 a0 x3 x2 (1 : Int32)))
set_option maxHeartbeats 4000000 in
set_option maxRecDepth 100000 in
theorem kX10_count_65 {p : Program} {l : Launch} {e : Env} {s : State} {m : MethodId} {args : Array Value} {below : List Frame} {meth : Method} {c : Code} {D : hD} {S0 : hS} {z : Int32 × hS} (C : hCx p m c cX10_count 4 s args RX10 meth (some .int) D) (fu : Nat) : ∀ (n : Nat) (S : hS) (a0 : Nat) (x2 : Int32) (x3 : Int32) (H : Heap) (locs : List Loc) (ls : Array Slot), fX10_count_65 fu n S a0 x2 x3 = some z → h_V D (h_A S0) s S H locs → hl_has ls 4 [(0, .inr (some a0)), (2, .inl x2), (3, .inl x3)] → W p l e { frames := 3, cells := 0, slots := 0, locals := 72 } s m args below meth c H locs 0 0 (MQ below (h_Q D (h_A S0) (some (.int z.1)) z.2) args s 0 0 (h_A S0)) (F0 m 65 ls []) := by
  obtain ⟨-, hx, hb, hml, hown, hr, hlk, hK, hts⟩ := id C
  intro n
  induction n with
  | zero =>
    intro S a0 x2 x3 _ _ _ h hV hl
    rw [fX10_count_65] at h
    cases h
  | succ n ih =>
    intro S a0 x2 x3 _ _ _ h hV hl
    rw [fX10_count_65] at h
    refine lv_iload_n hx hb dX10_count_65 rfl (hi_at hl 2 rfl) ?_
    refine hr_aload_n hx hb dX10_count_66 rfl (hr_at hl 0 rfl) ?_
    obtain ⟨v1, g2, h3⟩ := hbind h; clear h
    refine h_gI hx hb hown hV g2 (flRX10_63 hts hK) dX10_count_67 ?_
    refine lv_icmp_ge (tgt := 95) hx hb dX10_count_70 (by decide) (fun c4 => ?_) (fun c4 => ?_)
    · rw [if_pos c4] at h3
      refine lv_iload_n hx hb dX10_count_95 rfl (hi_at hl 1 rfl) ?_
      exact h_iret hx hb hr hlk hV h3 (Nat.le_of_ble_eq_true rfl) (Nat.le_of_ble_eq_true rfl) dX10_count_96
    · rw [if_neg c4] at h3
      refine lv_iload_n hx hb dX10_count_73 rfl (hi_at hl 1 rfl) ?_
      refine hr_aload_n hx hb dX10_count_74 rfl (hr_at hl 0 rfl) ?_
      refine lv_iload_n hx hb dX10_count_75 rfl (hi_at hl 2 rfl) ?_
      obtain ⟨b7, g8, h9⟩ := hbind h3; clear h3
      obtain ⟨_, _, e10, q10⟩ := rcv_inv g8
      obtain ⟨r5, S6, g11, h12⟩ := hbn2 h9; clear h9
      refine h_callV (n := 1) (As := [.int x3]) (rest := [.int x2]) (st1 := [.int r5, .int x2]) (fr := 0) (lo := 0) (mc := 0) (ms := 0) C.1 hK hV q10 rfl rfl wd807 wd804 wd806 wd43 wd83 ⟨by decide, by decide, by decide⟩ ⟨(Nat.le_of_ble_eq_true rfl), (Nat.le_of_ble_eq_true rfl)⟩ rfl hl.1 (hW_ok [.inl x2] (Nat.le_of_ble_eq_true rfl)) dX10_count_76 ⟨(Nat.le_of_ble_eq_true rfl), (Nat.le_of_ble_eq_true rfl)⟩ rfl (by rw [e10]; rfl) (mX10_has l D fu S b7 x3 _ g11) (fun H locs hV => ?_)
      refine lv_if_eq (tgt := 86) hx hb dX10_count_79 (by decide) (fun c13 => ?_) (fun c13 => ?_)
      · rw [if_pos c13] at h12
        refine lv_iconst (v := 0) hx hb dX10_count_86 (by decide) ?_
        exact kX10_count_87 C fu (fX10_count_65 fu n) ih S6 a0 x3 x2 (0 : Int32) _ _ _ h12 hV (hl_sub hl [0, 2] rfl)
      · rw [if_neg c13] at h12
        refine lv_iconst (v := 1) hx hb dX10_count_82 (by decide) ?_
        refine lv_goto (tgt := 87) hx hb dX10_count_83 (by decide) ?_
        exact kX10_count_87 C fu (fX10_count_65 fu n) ih S6 a0 x3 x2 (1 : Int32) _ _ _ h12 hV (hl_sub hl [0, 2] rfl)
def fX10_count_52 (fu : Nat) (S : hS) (a0 : Nat) (x1 : Int32) : Option (Int32 × hS) := (rcv S 9 (some a0)).bind fun b3 => bn2 (fX10_gaps fu S b3 x1) fun r1 S2 => some (r1, S2)
set_option maxHeartbeats 4000000 in
set_option maxRecDepth 100000 in
theorem kX10_count_52 {p : Program} {l : Launch} {e : Env} {s : State} {m : MethodId} {args : Array Value} {below : List Frame} {meth : Method} {c : Code} {D : hD} {S0 : hS} {z : Int32 × hS} (C : hCx p m c cX10_count 4 s args RX10 meth (some .int) D) (fu : Nat) : ∀ (S : hS) (a0 : Nat) (x1 : Int32) (H : Heap) (locs : List Loc) (ls : Array Slot), fX10_count_52 fu S a0 x1 = some z → h_V D (h_A S0) s S H locs → hl_has ls 4 [(0, .inr (some a0)), (1, .inl x1)] → W p l e { frames := 3, cells := 0, slots := 0, locals := 72 } s m args below meth c H locs 0 0 (MQ below (h_Q D (h_A S0) (some (.int z.1)) z.2) args s 0 0 (h_A S0)) (F0 m 52 ls []) := by
  obtain ⟨-, hx, hb, hml, hown, hr, hlk, hK, hts⟩ := id C
  intro S a0 x1 _ _ _ h hV hl
  unfold fX10_count_52 at h
  refine hr_aload_n hx hb dX10_count_52 rfl (hr_at hl 0 rfl) ?_
  refine lv_iload_n hx hb dX10_count_53 rfl (hi_at hl 1 rfl) ?_
  obtain ⟨b3, g4, h5⟩ := hbind h; clear h
  obtain ⟨_, _, e6, q6⟩ := rcv_inv g4
  obtain ⟨r1, S2, g7, h8⟩ := hbn2 h5; clear h5
  refine h_callV (n := 1) (As := [.int x1]) (rest := []) (st1 := [.int r1]) (fr := 2) (lo := 45) (mc := 0) (ms := 0) C.1 hK hV q6 rfl rfl wd996 wd993 wd995 wd76 wd83 ⟨by decide, by decide, by decide⟩ ⟨(Nat.le_of_ble_eq_true rfl), (Nat.le_of_ble_eq_true rfl)⟩ rfl hl.1 (hW_ok [] (Nat.le_of_ble_eq_true rfl)) dX10_count_54 ⟨(Nat.le_of_ble_eq_true rfl), (Nat.le_of_ble_eq_true rfl)⟩ rfl (by rw [e6]; rfl) (mX10_gaps l D fu S b3 x1 _ g7) (fun H locs hV => ?_)
  exact h_iret hx hb hr hlk hV h8 (Nat.le_of_ble_eq_true rfl) (Nat.le_of_ble_eq_true rfl) dX10_count_57
def fX10_count (fu : Nat) (S : hS) (a0 : Nat) (x1 : Int32) : Option (Int32 × hS) := if x1 = 0 then (fX10_count_52 fu S a0 x1) else if x1 = 1 then (fX10_count_52 fu S a0 x1) else if x1 = 2 then (fX10_count_52 fu S a0 x1) else if x1 = 3 then ((gI S 9 15 (some a0)).bind fun v5 =>
some (v5, S)) else if x1 = 4 then (fX10_count_65 fu fu S a0 (0 : Int32) (0 : Int32)) else if x1 = 5 then (fX10_count_99 fu fu S a0 (0 : Int32) (0 : Int32)) else if x1 = 6 then ((gI S 9 17 (some a0)).bind fun v11 =>
some (v11, S)) else if x1 = 7 then ((gI S 9 0 (some a0)).bind fun v15 =>
some (v15, S)) else if x1 = 8 then ((gI S 9 2 (some a0)).bind fun v19 =>
some (v19, S)) else (some ((-1 : Int32), S))
set_option maxHeartbeats 4000000 in
set_option maxRecDepth 100000 in
theorem mX10_count (l : Launch) (D : hD) (fu : Nat) (S : hS) (a0 : Nat) (x1 : Int32) (z : Int32 × hS) (h : fX10_count fu S a0 x1 = some z) : hM l D yX10_count cX10_count 4 (some .int) 3 72 0 0 [va_rf (some a0), .int x1] S (some (.int z.1)) z.2 := by
  refine h_body [.inr (some a0), .inl x1] RX10 (by decide) rfl (Nat.le_of_ble_eq_true rfl) ?_
  intro p e s m args below meth c C hin ls hV hl
  obtain ⟨-, hx, hb, hml, hown, hr, hlk, hK, hts⟩ := id C
  unfold fX10_count at h
  refine lv_iconst (v := 0) hx hb dX10_count_0 (by decide) ?_
  refine h_istore_n (tl' := [(2, .inl (0 : Int32)), (0, .inr (some a0)), (1, .inl x1)]) hx hb dX10_count_1 rfl hl (by decide) rfl (fun ls hl => ?_)
  refine lv_iload_n hx hb dX10_count_2 rfl (hi_at hl 2 rfl) ?_
  by_cases c1 : x1 = 0
  · rw [if_pos c1] at h
    refine lv_tableIn (off := 49) (tgt := 52) hx hb dX10_count_3 (by rw [c1]; decide) (by rw [c1]; decide) (by rw [c1]; rfl) (by decide) ?_
    exact kX10_count_52 C fu S a0 x1 _ _ _ h hV (hl_sub hl [1, 2] rfl)
  · rw [if_neg c1] at h
    by_cases c2 : x1 = 1
    · rw [if_pos c2] at h
      refine lv_tableIn (off := 49) (tgt := 52) hx hb dX10_count_3 (by rw [c2]; decide) (by rw [c2]; decide) (by rw [c2]; rfl) (by decide) ?_
      exact kX10_count_52 C fu S a0 x1 _ _ _ h hV (hl_sub hl [1, 2] rfl)
    · rw [if_neg c2] at h
      by_cases c3 : x1 = 2
      · rw [if_pos c3] at h
        refine lv_tableIn (off := 49) (tgt := 52) hx hb dX10_count_3 (by rw [c3]; decide) (by rw [c3]; decide) (by rw [c3]; rfl) (by decide) ?_
        exact kX10_count_52 C fu S a0 x1 _ _ _ h hV (hl_sub hl [1, 2] rfl)
      · rw [if_neg c3] at h
        by_cases c4 : x1 = 3
        · rw [if_pos c4] at h
          refine lv_tableIn (off := 55) (tgt := 58) hx hb dX10_count_3 (by rw [c4]; decide) (by rw [c4]; decide) (by rw [c4]; rfl) (by decide) ?_
          refine hr_aload_n hx hb dX10_count_58 rfl (hr_at hl 1 rfl) ?_
          obtain ⟨v5, g6, h7⟩ := hbind h; clear h
          refine h_gI hx hb hown hV g6 (flRX10_106 hts hK) dX10_count_59 ?_
          exact h_iret hx hb hr hlk hV h7 (Nat.le_of_ble_eq_true rfl) (Nat.le_of_ble_eq_true rfl) dX10_count_62
        · rw [if_neg c4] at h
          by_cases c8 : x1 = 4
          · rw [if_pos c8] at h
            refine lv_tableIn (off := 60) (tgt := 63) hx hb dX10_count_3 (by rw [c8]; decide) (by rw [c8]; decide) (by rw [c8]; rfl) (by decide) ?_
            refine lv_iconst (v := 0) hx hb dX10_count_63 (by decide) ?_
            refine h_istore_n (tl' := [(3, .inl (0 : Int32)), (2, .inl (0 : Int32)), (0, .inr (some a0)), (1, .inl x1)]) hx hb dX10_count_64 rfl hl (by decide) rfl (fun ls hl => ?_)
            exact kX10_count_65 C fu fu S a0 (0 : Int32) (0 : Int32) _ _ _ h hV (hl_sub hl [2, 1, 0] rfl)
          · rw [if_neg c8] at h
            by_cases c9 : x1 = 5
            · rw [if_pos c9] at h
              refine lv_tableIn (off := 94) (tgt := 97) hx hb dX10_count_3 (by rw [c9]; decide) (by rw [c9]; decide) (by rw [c9]; rfl) (by decide) ?_
              refine lv_iconst (v := 0) hx hb dX10_count_97 (by decide) ?_
              refine h_istore_n (tl' := [(3, .inl (0 : Int32)), (2, .inl (0 : Int32)), (0, .inr (some a0)), (1, .inl x1)]) hx hb dX10_count_98 rfl hl (by decide) rfl (fun ls hl => ?_)
              exact kX10_count_99 C fu fu S a0 (0 : Int32) (0 : Int32) _ _ _ h hV (hl_sub hl [2, 1, 0] rfl)
            · rw [if_neg c9] at h
              by_cases c10 : x1 = 6
              · rw [if_pos c10] at h
                refine lv_tableIn (off := 130) (tgt := 133) hx hb dX10_count_3 (by rw [c10]; decide) (by rw [c10]; decide) (by rw [c10]; rfl) (by decide) ?_
                refine hr_aload_n hx hb dX10_count_133 rfl (hr_at hl 1 rfl) ?_
                obtain ⟨v11, g12, h13⟩ := hbind h; clear h
                refine h_gI hx hb hown hV g12 (flRX10_215 hts hK) dX10_count_134 ?_
                exact h_iret hx hb hr hlk hV h13 (Nat.le_of_ble_eq_true rfl) (Nat.le_of_ble_eq_true rfl) dX10_count_137
              · rw [if_neg c10] at h
                by_cases c14 : x1 = 7
                · rw [if_pos c14] at h
                  refine lv_tableIn (off := 135) (tgt := 138) hx hb dX10_count_3 (by rw [c14]; decide) (by rw [c14]; decide) (by rw [c14]; rfl) (by decide) ?_
                  refine hr_aload_n hx hb dX10_count_138 rfl (hr_at hl 1 rfl) ?_
                  obtain ⟨v15, g16, h17⟩ := hbind h; clear h
                  refine h_gI hx hb hown hV g16 (flRX10_59 hts hK) dX10_count_139 ?_
                  exact h_iret hx hb hr hlk hV h17 (Nat.le_of_ble_eq_true rfl) (Nat.le_of_ble_eq_true rfl) dX10_count_142
                · rw [if_neg c14] at h
                  by_cases c18 : x1 = 8
                  · rw [if_pos c18] at h
                    refine lv_tableIn (off := 140) (tgt := 143) hx hb dX10_count_3 (by rw [c18]; decide) (by rw [c18]; decide) (by rw [c18]; rfl) (by decide) ?_
                    refine hr_aload_n hx hb dX10_count_143 rfl (hr_at hl 1 rfl) ?_
                    obtain ⟨v19, g20, h21⟩ := hbind h; clear h
                    refine h_gI hx hb hown hV g20 (flRX10_66 hts hK) dX10_count_144 ?_
                    exact h_iret hx hb hr hlk hV h21 (Nat.le_of_ble_eq_true rfl) (Nat.le_of_ble_eq_true rfl) dX10_count_147
                  · rw [if_neg c18] at h
                    have ec1 : (x1).toInt ≠ 0 := h_tinj (k := 0) c1
                    have ec2 : (x1).toInt ≠ 1 := h_tinj (k := 1) c2
                    have ec3 : (x1).toInt ≠ 2 := h_tinj (k := 2) c3
                    have ec4 : (x1).toInt ≠ 3 := h_tinj (k := 3) c4
                    have ec8 : (x1).toInt ≠ 4 := h_tinj (k := 4) c8
                    have ec9 : (x1).toInt ≠ 5 := h_tinj (k := 5) c9
                    have ec10 : (x1).toInt ≠ 6 := h_tinj (k := 6) c10
                    have ec14 : (x1).toInt ≠ 7 := h_tinj (k := 7) c14
                    have ec18 : (x1).toInt ≠ 8 := h_tinj (k := 8) c18
                    refine lv_tableOut (tgt := 148) hx hb dX10_count_3 (by omega) (by decide) ?_
                    refine lv_iconst (v := -1) hx hb dX10_count_148 (by decide) ?_
                    exact h_iret hx hb hr hlk hV h (Nat.le_of_ble_eq_true rfl) (Nat.le_of_ble_eq_true rfl) dX10_count_149
