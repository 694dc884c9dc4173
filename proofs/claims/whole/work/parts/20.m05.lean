def fX9_pack (fu : Nat) (S : hS) (a0 : Nat) : Option (Int32 × hS) := (gR S 8 0 (some a0)).bind fun v1 => (rcv S 0 v1).bind fun b6 => bn2 (fX0_moveAllDown fu S b6) fun r4 S5 => some (r4, S5)
set_option maxHeartbeats 4000000 in
set_option maxRecDepth 100000 in
theorem mX9_pack (l : Launch) (D : hD) (fu : Nat) (S : hS) (a0 : Nat) (z : Int32 × hS) (h : fX9_pack fu S a0 = some z) : hM l D yX9_pack cX9_pack 1 (some .int) 3 65 0 0 [va_rf (some a0)] S (some (.int z.1)) z.2 := by
  refine h_body [.inr (some a0)] RX9 (by decide) rfl (Nat.le_of_ble_eq_true rfl) ?_
  intro p e s m args below meth c C hin ls hV hl
  obtain ⟨-, hx, hb, hml, hown, hr, hlk, hK, hts⟩ := id C
  unfold fX9_pack at h
  refine hr_aload_n hx hb dX9_pack_0 rfl (hr_at hl 0 rfl) ?_
  obtain ⟨v1, g2, h3⟩ := hbind h; clear h
  refine h_gR hx hb hown hV g2 (flRX9_18 hts hK) dX9_pack_1 ?_
  obtain ⟨b6, g7, h8⟩ := hbind h3; clear h3
  obtain ⟨_, _, e9, q9⟩ := rcv_inv g7
  obtain ⟨r4, S5, g10, h11⟩ := hbn2 h8; clear h8
  refine h_callVN (n := 0) (As := []) (rest := []) (st1 := [.int r4]) (fr := 2) (lo := 42) (mc := 0) (ms := 0) C.1 hK hV q9 rfl rfl wd653 (wo650 hK.2) wd652 wd36 wd79 ⟨by decide, by decide, by decide⟩ ⟨(Nat.le_of_ble_eq_true rfl), (Nat.le_of_ble_eq_true rfl)⟩ rfl hl.1 (hW_ok [] (Nat.le_of_ble_eq_true rfl)) dX9_pack_4 ⟨(Nat.le_of_ble_eq_true rfl), (Nat.le_of_ble_eq_true rfl)⟩ rfl (by rw [e9]; rfl) (mX0_moveAllDown l D fu S b6 _ g10) (fun H locs hV => ?_)
  exact h_iret hx hb hr hlk hV h11 (Nat.le_of_ble_eq_true rfl) (Nat.le_of_ble_eq_true rfl) dX9_pack_7
def fX9_word (fu : Nat) (S : hS) (a0 : Nat) (x1 : Int32) : Option (Int32 × hS) := (gR S 8 0 (some a0)).bind fun v1 => (rcv S 0 v1).bind fun b6 => bn2 (fX0_read fu S b6 x1) fun r4 S5 => some (r4, S5)
set_option maxHeartbeats 4000000 in
set_option maxRecDepth 100000 in
theorem mX9_word (l : Launch) (D : hD) (fu : Nat) (S : hS) (a0 : Nat) (x1 : Int32) (z : Int32 × hS) (h : fX9_word fu S a0 x1 = some z) : hM l D yX9_word cX9_word 2 (some .int) 1 21 0 0 [va_rf (some a0), .int x1] S (some (.int z.1)) z.2 := by
  refine h_body [.inr (some a0), .inl x1] RX9 (by decide) rfl (Nat.le_of_ble_eq_true rfl) ?_
  intro p e s m args below meth c C hin ls hV hl
  obtain ⟨-, hx, hb, hml, hown, hr, hlk, hK, hts⟩ := id C
  unfold fX9_word at h
  refine hr_aload_n hx hb dX9_word_0 rfl (hr_at hl 0 rfl) ?_
  obtain ⟨v1, g2, h3⟩ := hbind h; clear h
  refine h_gR hx hb hown hV g2 (flRX9_18 hts hK) dX9_word_1 ?_
  refine lv_iload_n hx hb dX9_word_4 rfl (hi_at hl 1 rfl) ?_
  obtain ⟨b6, g7, h8⟩ := hbind h3; clear h3
  obtain ⟨_, _, e9, q9⟩ := rcv_inv g7
  obtain ⟨r4, S5, g10, h11⟩ := hbn2 h8; clear h8
  refine h_callVN (n := 1) (As := [.int x1]) (rest := []) (st1 := [.int r4]) (fr := 0) (lo := 0) (mc := 0) (ms := 0) C.1 hK hV q9 rfl rfl wd550 (wo633 hK.2) wd549 wd24 wd79 ⟨by decide, by decide, by decide⟩ ⟨(Nat.le_of_ble_eq_true rfl), (Nat.le_of_ble_eq_true rfl)⟩ rfl hl.1 (hW_ok [] (Nat.le_of_ble_eq_true rfl)) dX9_word_5 ⟨(Nat.le_of_ble_eq_true rfl), (Nat.le_of_ble_eq_true rfl)⟩ rfl (by rw [e9]; rfl) (mX0_read l D fu S b6 x1 _ g10) (fun H locs hV => ?_)
  exact h_iret hx hb hr hlk hV h11 (Nat.le_of_ble_eq_true rfl) (Nat.le_of_ble_eq_true rfl) dX9_word_8
def fX9_job (fu : Nat) (S : hS) (a0 : Nat) (x1 : Int32) (x2 : Int32) : Option (Int32 × hS) := (rcv S 8 (some a0)).bind fun b3 => bn2 (fX9_find fu S b3 x1) fun r1 S2 => if r1 = none then (some ((-1 : Int32), S2)) else (if x2 = 0 then ((gR S2 4 2 r1).bind fun v11 =>
(gI S2 1 1 v11).bind fun v14 =>
some (v14, S2)) else if x2 = 1 then ((gI S2 4 1 r1).bind fun v18 =>
some (v18, S2)) else if x2 = 2 then ((gI S2 4 4 r1).bind fun v22 =>
some (v22, S2)) else if x2 = 3 then ((gI S2 4 6 r1).bind fun v26 =>
some (v26, S2)) else if x2 = 4 then ((gR S2 4 2 r1).bind fun v30 =>
(gI S2 1 0 v30).bind fun v33 =>
some (v33, S2)) else if x2 = 5 then ((gR S2 4 3 r1).bind fun v37 =>
(gI S2 1 0 v37).bind fun v40 =>
some (v40, S2)) else if x2 = 6 then ((gR S2 8 2 (some a0)).bind fun v44 =>
(rcv S2 7 v44).bind fun b49 =>
bn2 (fX7_countAheadOf fu S2 b49 r1) fun r47 S48 =>
some (r47, S48)) else if x2 = 7 then ((gI S2 4 7 r1).bind fun v56 =>
some (v56, S2)) else if x2 = 8 then ((gI S2 4 8 r1).bind fun v60 =>
some (v60, S2)) else (some ((-1 : Int32), S2)))
set_option maxHeartbeats 4000000 in
set_option maxRecDepth 100000 in
theorem mX9_job (l : Launch) (D : hD) (fu : Nat) (S : hS) (a0 : Nat) (x1 : Int32) (x2 : Int32) (z : Int32 × hS) (h : fX9_job fu S a0 x1 x2 = some z) : hM l D yX9_job cX9_job 4 (some .int) 1 23 0 0 [va_rf (some a0), .int x1, .int x2] S (some (.int z.1)) z.2 := by
  refine h_body [.inr (some a0), .inl x1, .inl x2] RX9 (by decide) rfl (Nat.le_of_ble_eq_true rfl) ?_
  intro p e s m args below meth c C hin ls hV hl
  obtain ⟨-, hx, hb, hml, hown, hr, hlk, hK, hts⟩ := id C
  unfold fX9_job at h
  refine hr_aload_n hx hb dX9_job_0 rfl (hr_at hl 0 rfl) ?_
  refine lv_iload_n hx hb dX9_job_1 rfl (hi_at hl 1 rfl) ?_
  obtain ⟨b3, g4, h5⟩ := hbind h; clear h
  obtain ⟨_, _, e6, q6⟩ := rcv_inv g4
  obtain ⟨r1, S2, g7, h8⟩ := hbn2 h5; clear h5
  refine h_callV (n := 1) (As := [.int x1]) (rest := []) (st1 := [va_rf r1]) (fr := 0) (lo := 0) (mc := 0) (ms := 0) C.1 hK hV q6 rfl rfl wd293 wd290 wd292 wd9 wd78 ⟨by decide, by decide, by decide⟩ ⟨(Nat.le_of_ble_eq_true rfl), (Nat.le_of_ble_eq_true rfl)⟩ rfl hl.1 (hW_ok [] (Nat.le_of_ble_eq_true rfl)) dX9_job_2 ⟨(Nat.le_of_ble_eq_true rfl), (Nat.le_of_ble_eq_true rfl)⟩ rfl (by rw [e6]; rfl) (mX9_find l D fu S b3 x1 _ g7) (fun H locs hV => ?_)
  refine h_astore_n (tl' := [(3, .inr r1), (0, .inr (some a0)), (1, .inl x1), (2, .inl x2)]) hx hb dX9_job_5 rfl hl (by decide) rfl (fun ls hl => ?_)
  refine hr_aload_n hx hb dX9_job_6 rfl (hr_at hl 0 rfl) ?_
  refine hr_ifnonnull (tgt := 12) hx hb dX9_job_7 (by decide) (fun c9 => ?_) (fun c9 => ?_)
  · rw [if_neg c9] at h8
    refine lv_iload_n hx hb dX9_job_12 rfl (hi_at hl 3 rfl) ?_
    by_cases c10 : x2 = 0
    · rw [if_pos c10] at h8
      refine lv_tableIn (off := 51) (tgt := 64) hx hb dX9_job_13 (by rw [c10]; decide) (by rw [c10]; decide) (by rw [c10]; rfl) (by decide) ?_
      refine hr_aload_n hx hb dX9_job_64 rfl (hr_at hl 0 rfl) ?_
      obtain ⟨v11, g12, h13⟩ := hbind h8; clear h8
      refine h_gR hx hb hown hV g12 (flRX9_61 hts hK) dX9_job_65 ?_
      obtain ⟨v14, g15, h16⟩ := hbind h13; clear h13
      refine h_gI hx hb hown hV g15 (flRX9_139 hts hK) dX9_job_68 ?_
      exact h_iret hx hb hr hlk hV h16 (Nat.le_of_ble_eq_true rfl) (Nat.le_of_ble_eq_true rfl) dX9_job_71
    · rw [if_neg c10] at h8
      by_cases c17 : x2 = 1
      · rw [if_pos c17] at h8
        refine lv_tableIn (off := 59) (tgt := 72) hx hb dX9_job_13 (by rw [c17]; decide) (by rw [c17]; decide) (by rw [c17]; rfl) (by decide) ?_
        refine hr_aload_n hx hb dX9_job_72 rfl (hr_at hl 0 rfl) ?_
        obtain ⟨v18, g19, h20⟩ := hbind h8; clear h8
        refine h_gI hx hb hown hV g19 (flRX9_142 hts hK) dX9_job_73 ?_
        exact h_iret hx hb hr hlk hV h20 (Nat.le_of_ble_eq_true rfl) (Nat.le_of_ble_eq_true rfl) dX9_job_76
      · rw [if_neg c17] at h8
        by_cases c21 : x2 = 2
        · rw [if_pos c21] at h8
          refine lv_tableIn (off := 64) (tgt := 77) hx hb dX9_job_13 (by rw [c21]; decide) (by rw [c21]; decide) (by rw [c21]; rfl) (by decide) ?_
          refine hr_aload_n hx hb dX9_job_77 rfl (hr_at hl 0 rfl) ?_
          obtain ⟨v22, g23, h24⟩ := hbind h8; clear h8
          refine h_gI hx hb hown hV g23 (flRX9_126 hts hK) dX9_job_78 ?_
          exact h_iret hx hb hr hlk hV h24 (Nat.le_of_ble_eq_true rfl) (Nat.le_of_ble_eq_true rfl) dX9_job_81
        · rw [if_neg c21] at h8
          by_cases c25 : x2 = 3
          · rw [if_pos c25] at h8
            refine lv_tableIn (off := 69) (tgt := 82) hx hb dX9_job_13 (by rw [c25]; decide) (by rw [c25]; decide) (by rw [c25]; rfl) (by decide) ?_
            refine hr_aload_n hx hb dX9_job_82 rfl (hr_at hl 0 rfl) ?_
            obtain ⟨v26, g27, h28⟩ := hbind h8; clear h8
            refine h_gI hx hb hown hV g27 (flRX9_145 hts hK) dX9_job_83 ?_
            exact h_iret hx hb hr hlk hV h28 (Nat.le_of_ble_eq_true rfl) (Nat.le_of_ble_eq_true rfl) dX9_job_86
          · rw [if_neg c25] at h8
            by_cases c29 : x2 = 4
            · rw [if_pos c29] at h8
              refine lv_tableIn (off := 74) (tgt := 87) hx hb dX9_job_13 (by rw [c29]; decide) (by rw [c29]; decide) (by rw [c29]; rfl) (by decide) ?_
              refine hr_aload_n hx hb dX9_job_87 rfl (hr_at hl 0 rfl) ?_
              obtain ⟨v30, g31, h32⟩ := hbind h8; clear h8
              refine h_gR hx hb hown hV g31 (flRX9_61 hts hK) dX9_job_88 ?_
              obtain ⟨v33, g34, h35⟩ := hbind h32; clear h32
              refine h_gI hx hb hown hV g34 (flRX9_65 hts hK) dX9_job_91 ?_
              exact h_iret hx hb hr hlk hV h35 (Nat.le_of_ble_eq_true rfl) (Nat.le_of_ble_eq_true rfl) dX9_job_94
            · rw [if_neg c29] at h8
              by_cases c36 : x2 = 5
              · rw [if_pos c36] at h8
                refine lv_tableIn (off := 82) (tgt := 95) hx hb dX9_job_13 (by rw [c36]; decide) (by rw [c36]; decide) (by rw [c36]; rfl) (by decide) ?_
                refine hr_aload_n hx hb dX9_job_95 rfl (hr_at hl 0 rfl) ?_
                obtain ⟨v37, g38, h39⟩ := hbind h8; clear h8
                refine h_gR hx hb hown hV g38 (flRX9_133 hts hK) dX9_job_96 ?_
                obtain ⟨v40, g41, h42⟩ := hbind h39; clear h39
                refine h_gI hx hb hown hV g41 (flRX9_65 hts hK) dX9_job_99 ?_
                exact h_iret hx hb hr hlk hV h42 (Nat.le_of_ble_eq_true rfl) (Nat.le_of_ble_eq_true rfl) dX9_job_102
              · rw [if_neg c36] at h8
                by_cases c43 : x2 = 6
                · rw [if_pos c43] at h8
                  refine lv_tableIn (off := 90) (tgt := 103) hx hb dX9_job_13 (by rw [c43]; decide) (by rw [c43]; decide) (by rw [c43]; rfl) (by decide) ?_
                  refine hr_aload_n hx hb dX9_job_103 rfl (hr_at hl 1 rfl) ?_
                  obtain ⟨v44, g45, h46⟩ := hbind h8; clear h8
                  refine h_gR hx hb hown hV g45 (flRX9_31 hts hK) dX9_job_104 ?_
                  refine hr_aload_n hx hb dX9_job_107 rfl (hr_at hl 0 rfl) ?_
                  obtain ⟨b49, g50, h51⟩ := hbind h46; clear h46
                  obtain ⟨_, _, e52, q52⟩ := rcv_inv g50
                  obtain ⟨r47, S48, g53, h54⟩ := hbn2 h51; clear h51
                  refine h_callVN (n := 1) (As := [va_rf r1]) (rest := []) (st1 := [.int r47]) (fr := 0) (lo := 0) (mc := 0) (ms := 0) C.1 hK hV q52 rfl rfl wd666 (wo663 hK.2) wd665 wd37 wd82 ⟨by decide, by decide, by decide⟩ ⟨(Nat.le_of_ble_eq_true rfl), (Nat.le_of_ble_eq_true rfl)⟩ rfl hl.1 (hW_ok [] (Nat.le_of_ble_eq_true rfl)) dX9_job_108 ⟨(Nat.le_of_ble_eq_true rfl), (Nat.le_of_ble_eq_true rfl)⟩ rfl (by rw [e52]; rfl) (mX7_countAheadOf l D fu S2 b49 r1 _ g53) (fun H locs hV => ?_)
                  exact h_iret hx hb hr hlk hV h54 (Nat.le_of_ble_eq_true rfl) (Nat.le_of_ble_eq_true rfl) dX9_job_111
                · rw [if_neg c43] at h8
                  by_cases c55 : x2 = 7
                  · rw [if_pos c55] at h8
                    refine lv_tableIn (off := 99) (tgt := 112) hx hb dX9_job_13 (by rw [c55]; decide) (by rw [c55]; decide) (by rw [c55]; rfl) (by decide) ?_
                    refine hr_aload_n hx hb dX9_job_112 rfl (hr_at hl 0 rfl) ?_
                    obtain ⟨v56, g57, h58⟩ := hbind h8; clear h8
                    refine h_gI hx hb hown hV g57 (flRX9_93 hts hK) dX9_job_113 ?_
                    exact h_iret hx hb hr hlk hV h58 (Nat.le_of_ble_eq_true rfl) (Nat.le_of_ble_eq_true rfl) dX9_job_116
                  · rw [if_neg c55] at h8
                    by_cases c59 : x2 = 8
                    · rw [if_pos c59] at h8
                      refine lv_tableIn (off := 104) (tgt := 117) hx hb dX9_job_13 (by rw [c59]; decide) (by rw [c59]; decide) (by rw [c59]; rfl) (by decide) ?_
                      refine hr_aload_n hx hb dX9_job_117 rfl (hr_at hl 0 rfl) ?_
                      obtain ⟨v60, g61, h62⟩ := hbind h8; clear h8
                      refine h_gI hx hb hown hV g61 (flRX9_152 hts hK) dX9_job_118 ?_
                      exact h_iret hx hb hr hlk hV h62 (Nat.le_of_ble_eq_true rfl) (Nat.le_of_ble_eq_true rfl) dX9_job_121
                    · rw [if_neg c59] at h8
                      have ec10 : (x2).toInt ≠ 0 := h_tinj (k := 0) c10
                      have ec17 : (x2).toInt ≠ 1 := h_tinj (k := 1) c17
                      have ec21 : (x2).toInt ≠ 2 := h_tinj (k := 2) c21
                      have ec25 : (x2).toInt ≠ 3 := h_tinj (k := 3) c25
                      have ec29 : (x2).toInt ≠ 4 := h_tinj (k := 4) c29
                      have ec36 : (x2).toInt ≠ 5 := h_tinj (k := 5) c36
                      have ec43 : (x2).toInt ≠ 6 := h_tinj (k := 6) c43
                      have ec55 : (x2).toInt ≠ 7 := h_tinj (k := 7) c55
                      have ec59 : (x2).toInt ≠ 8 := h_tinj (k := 8) c59
                      refine lv_tableOut (tgt := 122) hx hb dX9_job_13 (by omega) (by decide) ?_
                      refine lv_iconst (v := -1) hx hb dX9_job_122 (by decide) ?_
                      exact h_iret hx hb hr hlk hV h8 (Nat.le_of_ble_eq_true rfl) (Nat.le_of_ble_eq_true rfl) dX9_job_123
  · rw [if_pos c9] at h8
    refine lv_iconst (v := -1) hx hb dX9_job_10 (by decide) ?_
    exact h_iret hx hb hr hlk hV h8 (Nat.le_of_ble_eq_true rfl) (Nat.le_of_ble_eq_true rfl) dX9_job_11
def fX9_countJobs_25 (fu : Nat) (k4 : hS → Nat → Int32 → Int32 → Option (Int32 × hS)) (S : hS) (a0 : Nat) (x1 : Int32) (x2 : Int32) : Option (Int32 × hS) := k4 S a0 x1 (x2 + (1 : Int32))
set_option maxHeartbeats 4000000 in
set_option maxRecDepth 100000 in
theorem kX9_countJobs_25 {p : Program} {l : Launch} {e : Env} {s : State} {m : MethodId} {args : Array Value} {below : List Frame} {meth : Method} {c : Code} {D : hD} {S0 : hS} {z : Int32 × hS} (C : hCx p m c cX9_countJobs 3 s args RX9 meth (some .int) D) (fu : Nat) (k4 : hS → Nat → Int32 → Int32 → Option (Int32 × hS)) (hk4 : ∀ (S : hS) (a0 : Nat) (x1 : Int32) (x2 : Int32) (H : Heap) (locs : List Loc) (ls : Array Slot), k4 S a0 x1 x2 = some z → h_V D (h_A S0) s S H locs → hl_has ls 3 [(0, .inr (some a0)), (1, .inl x1), (2, .inl x2)] → W p l e { frames := 0, cells := 0, slots := 0, locals := 0 } s m args below meth c H locs 0 0 (MQ below (h_Q D (h_A S0) (some (.int z.1)) z.2) args s 0 0 (h_A S0)) (F0 m 4 ls [])) : ∀ (S : hS) (a0 : Nat) (x1 : Int32) (x2 : Int32) (H : Heap) (locs : List Loc) (ls : Array Slot), fX9_countJobs_25 fu k4 S a0 x1 x2 = some z → h_V D (h_A S0) s S H locs → hl_has ls 3 [(0, .inr (some a0)), (1, .inl x1), (2, .inl x2)] → W p l e { frames := 0, cells := 0, slots := 0, locals := 0 } s m args below meth c H locs 0 0 (MQ below (h_Q D (h_A S0) (some (.int z.1)) z.2) args s 0 0 (h_A S0)) (F0 m 25 ls []) := by
  obtain ⟨-, hx, hb, hml, hown, hr, hlk, hK, hts⟩ := id C
  intro S a0 x1 x2 _ _ _ h hV hl
  unfold fX9_countJobs_25 at h
  refine h_iinc (v := (x2 + (1 : Int32))) (tl' := [(2, .inl (x2 + (1 : Int32))), (0, .inr (some a0)), (1, .inl x1)]) hx hb dX9_countJobs_25 hl (k := 2) rfl rfl (by decide) rfl (fun ls hl => ?_)
  refine lv_goto (tgt := 4) hx hb dX9_countJobs_28 (by decide) ?_
  exact hk4 S a0 x1 (x2 + (1 : Int32)) _ _ _ h hV (hl_sub hl [1, 2, 0] rfl)
def fX9_countJobs_4 (fu : Nat) : Nat → hS → Nat → Int32 → Int32 → Option (Int32 × hS)
  | 0, _, _, _, _ => none
  | n + 1, S, a0, x1, x2 => (gR S 8 1 (some a0)).bind fun v1 => (aL S 12 v1).bind fun v4 => if v4 ≤ x2 then (some (x1, S)) else ((gR S 8 1 (some a0)).bind fun v8 =>
(aR S v8 x2).bind fun v11 =>
if v11 = none then (fX9_countJobs_25 fu (fX9_countJobs_4 fu n) S a0 x1 x2) else (fX9_countJobs_25 fu (fX9_countJobs_4 fu n) S a0 (x1 + (1 : Int32)) x2))
set_option maxHeartbeats 4000000 in
set_option maxRecDepth 100000 in
theorem kX9_countJobs_4 {p : Program} {l : Launch} {e : Env} {s : State} {m : MethodId} {args : Array Value} {below : List Frame} {meth : Method} {c : Code} {D : hD} {S0 : hS} {z : Int32 × hS} (C : hCx p m c cX9_countJobs 3 s args RX9 meth (some .int) D) (fu : Nat) : ∀ (n : Nat) (S : hS) (a0 : Nat) (x1 : Int32) (x2 : Int32) (H : Heap) (locs : List Loc) (ls : Array Slot), fX9_countJobs_4 fu n S a0 x1 x2 = some z → h_V D (h_A S0) s S H locs → hl_has ls 3 [(0, .inr (some a0)), (1, .inl x1), (2, .inl x2)] → W p l e { frames := 0, cells := 0, slots := 0, locals := 0 } s m args below meth c H locs 0 0 (MQ below (h_Q D (h_A S0) (some (.int z.1)) z.2) args s 0 0 (h_A S0)) (F0 m 4 ls []) := by
  obtain ⟨-, hx, hb, hml, hown, hr, hlk, hK, hts⟩ := id C
  intro n
  induction n with
  | zero =>
    intro S a0 x1 x2 _ _ _ h hV hl
    rw [fX9_countJobs_4] at h
    cases h
  | succ n ih =>
    intro S a0 x1 x2 _ _ _ h hV hl
    rw [fX9_countJobs_4] at h
    refine lv_iload_n hx hb dX9_countJobs_4 rfl (hi_at hl 2 rfl) ?_
    refine hr_aload_n hx hb dX9_countJobs_5 rfl (hr_at hl 0 rfl) ?_
    obtain ⟨v1, g2, h3⟩ := hbind h; clear h
    refine h_gR hx hb hown hV g2 (flRX9_24 hts hK) dX9_countJobs_6 ?_
    obtain ⟨v4, g5, h6⟩ := hbind h3; clear h3
    refine h_alen hx hb hK hV (by decide) g5 dX9_countJobs_9 ?_
    refine lv_icmp_ge (tgt := 31) hx hb dX9_countJobs_10 (by decide) (fun c7 => ?_) (fun c7 => ?_)
    · rw [if_pos c7] at h6
      refine lv_iload_n hx hb dX9_countJobs_31 rfl (hi_at hl 1 rfl) ?_
      exact h_iret hx hb hr hlk hV h6 (Nat.le_of_ble_eq_true rfl) (Nat.le_of_ble_eq_true rfl) dX9_countJobs_32
    · rw [if_neg c7] at h6
      refine hr_aload_n hx hb dX9_countJobs_13 rfl (hr_at hl 0 rfl) ?_
      obtain ⟨v8, g9, h10⟩ := hbind h6; clear h6
      refine h_gR hx hb hown hV g9 (flRX9_24 hts hK) dX9_countJobs_14 ?_
      refine lv_iload_n hx hb dX9_countJobs_17 rfl (hi_at hl 2 rfl) ?_
      obtain ⟨v11, g12, h13⟩ := hbind h10; clear h10
      refine h_aald hx hb hK hV g12 dX9_countJobs_18 ?_
      refine hr_ifnull (tgt := 25) hx hb dX9_countJobs_19 (by decide) (fun c14 => ?_) (fun c14 => ?_)
      · rw [if_pos c14] at h13
        exact kX9_countJobs_25 C fu (fX9_countJobs_4 fu n) ih S a0 x1 x2 _ _ _ h13 hV (hl_sub hl [0, 1, 2] rfl)
      · rw [if_neg c14] at h13
        refine h_iinc (v := (x1 + (1 : Int32))) (tl' := [(1, .inl (x1 + (1 : Int32))), (0, .inr (some a0)), (2, .inl x2)]) hx hb dX9_countJobs_22 hl (k := 1) rfl rfl (by decide) rfl (fun ls hl => ?_)
        exact kX9_countJobs_25 C fu (fX9_countJobs_4 fu n) ih S a0 (x1 + (1 : Int32)) x2 _ _ _ h13 hV (hl_sub hl [1, 0, 2] rfl)
def fX9_countJobs (fu : Nat) (S : hS) (a0 : Nat) : Option (Int32 × hS) := fX9_countJobs_4 fu fu S a0 (0 : Int32) (0 : Int32)
set_option maxHeartbeats 4000000 in
set_option maxRecDepth 100000 in
theorem mX9_countJobs (l : Launch) (D : hD) (fu : Nat) (S : hS) (a0 : Nat) (z : Int32 × hS) (h : fX9_countJobs fu S a0 = some z) : hM l D yX9_countJobs cX9_countJobs 3 (some .int) 0 0 0 0 [va_rf (some a0)] S (some (.int z.1)) z.2 := by
  refine h_body [.inr (some a0)] RX9 (by decide) rfl (Nat.le_of_ble_eq_true rfl) ?_
  intro p e s m args below meth c C hin ls hV hl
  obtain ⟨-, hx, hb, hml, hown, hr, hlk, hK, hts⟩ := id C
  unfold fX9_countJobs at h
  refine lv_iconst (v := 0) hx hb dX9_countJobs_0 (by decide) ?_
  refine h_istore_n (tl' := [(1, .inl (0 : Int32)), (0, .inr (some a0))]) hx hb dX9_countJobs_1 rfl hl (by decide) rfl (fun ls hl => ?_)
  refine lv_iconst (v := 0) hx hb dX9_countJobs_2 (by decide) ?_
  refine h_istore_n (tl' := [(2, .inl (0 : Int32)), (1, .inl (0 : Int32)), (0, .inr (some a0))]) hx hb dX9_countJobs_3 rfl hl (by decide) rfl (fun ls hl => ?_)
  exact kX9_countJobs_4 C fu fu S a0 (0 : Int32) (0 : Int32) _ _ _ h hV (hl_sub hl [2, 1, 0] rfl)
def fX9_count (fu : Nat) (S : hS) (a0 : Nat) (x1 : Int32) : Option (Int32 × hS) := if x1 = 0 then ((gR S 8 0 (some a0)).bind fun v2 =>
(rcv S 0 v2).bind fun b7 =>
bn2 (fX0_countFreeWords fu S b7) fun r5 S6 =>
some (r5, S6)) else if x1 = 1 then ((gR S 8 0 (some a0)).bind fun v14 =>
(rcv S 0 v14).bind fun b19 =>
bn2 (fX0_sizeOfLargestGap fu S b19) fun r17 S18 =>
some (r17, S18)) else if x1 = 2 then ((gR S 8 0 (some a0)).bind fun v26 =>
(rcv S 0 v26).bind fun b31 =>
bn2 (fX0_countGaps fu S b31) fun r29 S30 =>
some (r29, S30)) else if x1 = 3 then ((gI S 8 4 (some a0)).bind fun v38 =>
some (v38, S)) else if x1 = 4 then ((rcv S 8 (some a0)).bind fun b44 =>
bn2 (fX9_countJobs fu S b44) fun r42 S43 =>
some (r42, S43)) else if x1 = 5 then ((gR S 8 2 (some a0)).bind fun v51 =>
(rcv S 7 v51).bind fun b56 =>
bn2 (fX7_length fu S b56) fun r54 S55 =>
some (r54, S55)) else if x1 = 6 then ((gI S 8 5 (some a0)).bind fun v63 =>
some (v63, S)) else if x1 = 7 then ((gR S 8 0 (some a0)).bind fun v67 =>
(gR S 0 0 v67).bind fun v70 =>
(aL S 10 v70).bind fun v73 =>
some (v73, S)) else if x1 = 8 then ((gI S 8 3 (some a0)).bind fun v77 =>
some (v77, S)) else (some ((-1 : Int32), S))
set_option maxHeartbeats 4000000 in
set_option maxRecDepth 100000 in
theorem mX9_count (l : Launch) (D : hD) (fu : Nat) (S : hS) (a0 : Nat) (x1 : Int32) (z : Int32 × hS) (h : fX9_count fu S a0 x1 = some z) : hM l D yX9_count cX9_count 2 (some .int) 3 64 0 0 [va_rf (some a0), .int x1] S (some (.int z.1)) z.2 := by
  refine h_body [.inr (some a0), .inl x1] RX9 (by decide) rfl (Nat.le_of_ble_eq_true rfl) ?_
  intro p e s m args below meth c C hin ls hV hl
  obtain ⟨-, hx, hb, hml, hown, hr, hlk, hK, hts⟩ := id C
  unfold fX9_count at h
  refine lv_iload_n hx hb dX9_count_0 rfl (hi_at hl 1 rfl) ?_
  by_cases c1 : x1 = 0
  · rw [if_pos c1] at h
    refine lv_tableIn (off := 51) (tgt := 52) hx hb dX9_count_1 (by rw [c1]; decide) (by rw [c1]; decide) (by rw [c1]; rfl) (by decide) ?_
    refine hr_aload_n hx hb dX9_count_52 rfl (hr_at hl 0 rfl) ?_
    obtain ⟨v2, g3, h4⟩ := hbind h; clear h
    refine h_gR hx hb hown hV g3 (flRX9_18 hts hK) dX9_count_53 ?_
    obtain ⟨b7, g8, h9⟩ := hbind h4; clear h4
    obtain ⟨_, _, e10, q10⟩ := rcv_inv g8
    obtain ⟨r5, S6, g11, h12⟩ := hbn2 h9; clear h9
    refine h_callVN (n := 0) (As := []) (rest := []) (st1 := [.int r5]) (fr := 2) (lo := 42) (mc := 0) (ms := 0) C.1 hK hV q10 rfl rfl wd674 (wo671 hK.2) wd673 wd38 wd79 ⟨by decide, by decide, by decide⟩ ⟨(Nat.le_of_ble_eq_true rfl), (Nat.le_of_ble_eq_true rfl)⟩ rfl hl.1 (hW_ok [] (Nat.le_of_ble_eq_true rfl)) dX9_count_56 ⟨(Nat.le_of_ble_eq_true rfl), (Nat.le_of_ble_eq_true rfl)⟩ rfl (by rw [e10]; rfl) (mX0_countFreeWords l D fu S b7 _ g11) (fun H locs hV => ?_)
    exact h_iret hx hb hr hlk hV h12 (Nat.le_of_ble_eq_true rfl) (Nat.le_of_ble_eq_true rfl) dX9_count_59
  · rw [if_neg c1] at h
    by_cases c13 : x1 = 1
    · rw [if_pos c13] at h
      refine lv_tableIn (off := 59) (tgt := 60) hx hb dX9_count_1 (by rw [c13]; decide) (by rw [c13]; decide) (by rw [c13]; rfl) (by decide) ?_
      refine hr_aload_n hx hb dX9_count_60 rfl (hr_at hl 0 rfl) ?_
      obtain ⟨v14, g15, h16⟩ := hbind h; clear h
      refine h_gR hx hb hown hV g15 (flRX9_18 hts hK) dX9_count_61 ?_
      obtain ⟨b19, g20, h21⟩ := hbind h16; clear h16
      obtain ⟨_, _, e22, q22⟩ := rcv_inv g20
      obtain ⟨r17, S18, g23, h24⟩ := hbn2 h21; clear h21
      refine h_callVN (n := 0) (As := []) (rest := []) (st1 := [.int r17]) (fr := 2) (lo := 42) (mc := 0) (ms := 0) C.1 hK hV q22 rfl rfl wd678 (wo675 hK.2) wd677 wd39 wd79 ⟨by decide, by decide, by decide⟩ ⟨(Nat.le_of_ble_eq_true rfl), (Nat.le_of_ble_eq_true rfl)⟩ rfl hl.1 (hW_ok [] (Nat.le_of_ble_eq_true rfl)) dX9_count_64 ⟨(Nat.le_of_ble_eq_true rfl), (Nat.le_of_ble_eq_true rfl)⟩ rfl (by rw [e22]; rfl) (mX0_sizeOfLargestGap l D fu S b19 _ g23) (fun H locs hV => ?_)
      exact h_iret hx hb hr hlk hV h24 (Nat.le_of_ble_eq_true rfl) (Nat.le_of_ble_eq_true rfl) dX9_count_67
    · rw [if_neg c13] at h
      by_cases c25 : x1 = 2
      · rw [if_pos c25] at h
        refine lv_tableIn (off := 67) (tgt := 68) hx hb dX9_count_1 (by rw [c25]; decide) (by rw [c25]; decide) (by rw [c25]; rfl) (by decide) ?_
        refine hr_aload_n hx hb dX9_count_68 rfl (hr_at hl 0 rfl) ?_
        obtain ⟨v26, g27, h28⟩ := hbind h; clear h
        refine h_gR hx hb hown hV g27 (flRX9_18 hts hK) dX9_count_69 ?_
        obtain ⟨b31, g32, h33⟩ := hbind h28; clear h28
        obtain ⟨_, _, e34, q34⟩ := rcv_inv g32
        obtain ⟨r29, S30, g35, h36⟩ := hbn2 h33; clear h33
        refine h_callVN (n := 0) (As := []) (rest := []) (st1 := [.int r29]) (fr := 2) (lo := 42) (mc := 0) (ms := 0) C.1 hK hV q34 rfl rfl wd682 (wo679 hK.2) wd681 wd40 wd79 ⟨by decide, by decide, by decide⟩ ⟨(Nat.le_of_ble_eq_true rfl), (Nat.le_of_ble_eq_true rfl)⟩ rfl hl.1 (hW_ok [] (Nat.le_of_ble_eq_true rfl)) dX9_count_72 ⟨(Nat.le_of_ble_eq_true rfl), (Nat.le_of_ble_eq_true rfl)⟩ rfl (by rw [e34]; rfl) (mX0_countGaps l D fu S b31 _ g35) (fun H locs hV => ?_)
        exact h_iret hx hb hr hlk hV h36 (Nat.le_of_ble_eq_true rfl) (Nat.le_of_ble_eq_true rfl) dX9_count_75
      · rw [if_neg c25] at h
        by_cases c37 : x1 = 3
        · rw [if_pos c37] at h
          refine lv_tableIn (off := 75) (tgt := 76) hx hb dX9_count_1 (by rw [c37]; decide) (by rw [c37]; decide) (by rw [c37]; rfl) (by decide) ?_
          refine hr_aload_n hx hb dX9_count_76 rfl (hr_at hl 0 rfl) ?_
          obtain ⟨v38, g39, h40⟩ := hbind h; clear h
          refine h_gI hx hb hown hV g39 (flRX9_90 hts hK) dX9_count_77 ?_
          exact h_iret hx hb hr hlk hV h40 (Nat.le_of_ble_eq_true rfl) (Nat.le_of_ble_eq_true rfl) dX9_count_80
        · rw [if_neg c37] at h
          by_cases c41 : x1 = 4
          · rw [if_pos c41] at h
            refine lv_tableIn (off := 80) (tgt := 81) hx hb dX9_count_1 (by rw [c41]; decide) (by rw [c41]; decide) (by rw [c41]; rfl) (by decide) ?_
            refine hr_aload_n hx hb dX9_count_81 rfl (hr_at hl 0 rfl) ?_
            obtain ⟨b44, g45, h46⟩ := hbind h; clear h
            obtain ⟨_, _, e47, q47⟩ := rcv_inv g45
            obtain ⟨r42, S43, g48, h49⟩ := hbn2 h46; clear h46
            refine h_callV (n := 0) (As := []) (rest := []) (st1 := [.int r42]) (fr := 0) (lo := 0) (mc := 0) (ms := 0) C.1 hK hV q47 rfl rfl wd686 wd683 wd685 wd41 wd78 ⟨by decide, by decide, by decide⟩ ⟨(Nat.le_of_ble_eq_true rfl), (Nat.le_of_ble_eq_true rfl)⟩ rfl hl.1 (hW_ok [] (Nat.le_of_ble_eq_true rfl)) dX9_count_82 ⟨(Nat.le_of_ble_eq_true rfl), (Nat.le_of_ble_eq_true rfl)⟩ rfl (by rw [e47]; rfl) (mX9_countJobs l D fu S b44 _ g48) (fun H locs hV => ?_)
            exact h_iret hx hb hr hlk hV h49 (Nat.le_of_ble_eq_true rfl) (Nat.le_of_ble_eq_true rfl) dX9_count_85
          · rw [if_neg c41] at h
            by_cases c50 : x1 = 5
            · rw [if_pos c50] at h
              refine lv_tableIn (off := 85) (tgt := 86) hx hb dX9_count_1 (by rw [c50]; decide) (by rw [c50]; decide) (by rw [c50]; rfl) (by decide) ?_
              refine hr_aload_n hx hb dX9_count_86 rfl (hr_at hl 0 rfl) ?_
              obtain ⟨v51, g52, h53⟩ := hbind h; clear h
              refine h_gR hx hb hown hV g52 (flRX9_31 hts hK) dX9_count_87 ?_
              obtain ⟨b56, g57, h58⟩ := hbind h53; clear h53
              obtain ⟨_, _, e59, q59⟩ := rcv_inv g57
              obtain ⟨r54, S55, g60, h61⟩ := hbn2 h58; clear h58
              refine h_callVN (n := 0) (As := []) (rest := []) (st1 := [.int r54]) (fr := 0) (lo := 0) (mc := 0) (ms := 0) C.1 hK hV q59 rfl rfl wd690 (wo687 hK.2) wd689 wd42 wd82 ⟨by decide, by decide, by decide⟩ ⟨(Nat.le_of_ble_eq_true rfl), (Nat.le_of_ble_eq_true rfl)⟩ rfl hl.1 (hW_ok [] (Nat.le_of_ble_eq_true rfl)) dX9_count_90 ⟨(Nat.le_of_ble_eq_true rfl), (Nat.le_of_ble_eq_true rfl)⟩ rfl (by rw [e59]; rfl) (mX7_length l D fu S b56 _ g60) (fun H locs hV => ?_)
              exact h_iret hx hb hr hlk hV h61 (Nat.le_of_ble_eq_true rfl) (Nat.le_of_ble_eq_true rfl) dX9_count_93
            · rw [if_neg c50] at h
              by_cases c62 : x1 = 6
              · rw [if_pos c62] at h
                refine lv_tableIn (off := 93) (tgt := 94) hx hb dX9_count_1 (by rw [c62]; decide) (by rw [c62]; decide) (by rw [c62]; rfl) (by decide) ?_
                refine hr_aload_n hx hb dX9_count_94 rfl (hr_at hl 0 rfl) ?_
                obtain ⟨v63, g64, h65⟩ := hbind h; clear h
                refine h_gI hx hb hown hV g64 (flRX9_170 hts hK) dX9_count_95 ?_
                exact h_iret hx hb hr hlk hV h65 (Nat.le_of_ble_eq_true rfl) (Nat.le_of_ble_eq_true rfl) dX9_count_98
              · rw [if_neg c62] at h
                by_cases c66 : x1 = 7
                · rw [if_pos c66] at h
                  refine lv_tableIn (off := 98) (tgt := 99) hx hb dX9_count_1 (by rw [c66]; decide) (by rw [c66]; decide) (by rw [c66]; rfl) (by decide) ?_
                  refine hr_aload_n hx hb dX9_count_99 rfl (hr_at hl 0 rfl) ?_
                  obtain ⟨v67, g68, h69⟩ := hbind h; clear h
                  refine h_gR hx hb hown hV g68 (flRX9_18 hts hK) dX9_count_100 ?_
                  obtain ⟨v70, g71, h72⟩ := hbind h69; clear h69
                  refine h_gR hx hb hown hV g71 (flRX9_171 hts hK) dX9_count_103 ?_
                  obtain ⟨v73, g74, h75⟩ := hbind h72; clear h72
                  refine h_alen hx hb hK hV (by decide) g74 dX9_count_106 ?_
                  exact h_iret hx hb hr hlk hV h75 (Nat.le_of_ble_eq_true rfl) (Nat.le_of_ble_eq_true rfl) dX9_count_107
                · rw [if_neg c66] at h
                  by_cases c76 : x1 = 8
                  · rw [if_pos c76] at h
                    refine lv_tableIn (off := 107) (tgt := 108) hx hb dX9_count_1 (by rw [c76]; decide) (by rw [c76]; decide) (by rw [c76]; rfl) (by decide) ?_
                    refine hr_aload_n hx hb dX9_count_108 rfl (hr_at hl 0 rfl) ?_
                    obtain ⟨v77, g78, h79⟩ := hbind h; clear h
                    refine h_gI hx hb hown hV g78 (flRX9_35 hts hK) dX9_count_109 ?_
                    exact h_iret hx hb hr hlk hV h79 (Nat.le_of_ble_eq_true rfl) (Nat.le_of_ble_eq_true rfl) dX9_count_112
                  · rw [if_neg c76] at h
                    have ec1 : (x1).toInt ≠ 0 := h_tinj (k := 0) c1
                    have ec13 : (x1).toInt ≠ 1 := h_tinj (k := 1) c13
                    have ec25 : (x1).toInt ≠ 2 := h_tinj (k := 2) c25
                    have ec37 : (x1).toInt ≠ 3 := h_tinj (k := 3) c37
                    have ec41 : (x1).toInt ≠ 4 := h_tinj (k := 4) c41
                    have ec50 : (x1).toInt ≠ 5 := h_tinj (k := 5) c50
                    have ec62 : (x1).toInt ≠ 6 := h_tinj (k := 6) c62
                    have ec66 : (x1).toInt ≠ 7 := h_tinj (k := 7) c66
                    have ec76 : (x1).toInt ≠ 8 := h_tinj (k := 8) c76
                    refine lv_tableOut (tgt := 113) hx hb dX9_count_1 (by omega) (by decide) ?_
                    refine lv_iconst (v := -1) hx hb dX9_count_113 (by decide) ?_
                    exact h_iret hx hb hr hlk hV h (Nat.le_of_ble_eq_true rfl) (Nat.le_of_ble_eq_true rfl) dX9_count_114
def fX10_init (fu : Nat) (S : hS) (a0 : Nat) (x1 : Int32) (x2 : Int32) (x3 : Int32) : Option (Unit × hS) := bn2 (nA S 10 24 (24 : Int32) (.int 0)) fun v1 S2 => (pV S2 9 4 (some a0) (va_rf v1)).bind fun S5 => bn2 (nA S5 10 24 (24 : Int32) (.int 0)) fun v8 S9 => (pV S9 9 5 (some a0) (va_rf v8)).bind fun S12 => bn2 (nA S12 10 24 (24 : Int32) (.int 0)) fun v15 S16 => (pV S16 9 6 (some a0) (va_rf v15)).bind fun S19 => bn2 (nA S19 10 24 (24 : Int32) (.int 0)) fun v22 S23 => (pV S23 9 7 (some a0) (va_rf v22)).bind fun S26 => bn2 (nA S26 10 24 (24 : Int32) (.int 0)) fun v29 S30 => (pV S30 9 8 (some a0) (va_rf v29)).bind fun S33 => bn2 (nA S33 10 24 (24 : Int32) (.int 0)) fun v36 S37 => (pV S37 9 9 (some a0) (va_rf v36)).bind fun S40 => bn2 (nA S40 10 24 (24 : Int32) (.int 0)) fun v43 S44 => (pV S44 9 10 (some a0) (va_rf v43)).bind fun S47 => bn2 (nA S47 10 24 (24 : Int32) (.int 0)) fun v50 S51 => (pV S51 9 11 (some a0) (va_rf v50)).bind fun S54 => bn2 (nA S54 10 24 (24 : Int32) (.int 0)) fun v57 S58 => (pV S58 9 12 (some a0) (va_rf v57)).bind fun S61 => bn2 (nA S61 10 24 (24 : Int32) (.int 0)) fun v64 S65 => (pV S65 9 13 (some a0) (va_rf v64)).bind fun S68 => bn2 (nA S68 11 24 (24 : Int32) (.int 0)) fun v71 S72 => (pV S72 9 14 (some a0) (va_rf v71)).bind fun S75 => bn2 (nA S75 10 1000 (1000 : Int32) (.int 0)) fun v78 S79 => (pV S79 9 18 (some a0) (va_rf v78)).bind fun S82 => bn2 (nA S82 10 240 (240 : Int32) (.int 0)) fun v85 S86 => (pV S86 9 19 (some a0) (va_rf v85)).bind fun S89 => (pV S89 9 0 (some a0) (.int (imx (8 : Int32) (imn (3000 : Int32) x1)))).bind fun S92 => (pV S92 9 1 (some a0) (.int (imx (1 : Int32) (imn (24 : Int32) x2)))).bind fun S95 => (pV S95 9 2 (some a0) (.int (imx (1 : Int32) (imn (200 : Int32) x3)))).bind fun S98 => (gI S98 9 0 (some a0)).bind fun v101 => bn2 (nA S98 10 3000 v101 (.int 0)) fun v104 S105 => (pV S105 9 3 (some a0) (va_rf v104)).bind fun S108 => some ((), S108)
set_option maxHeartbeats 4000000 in
set_option maxRecDepth 100000 in
theorem mX10_init (l : Launch) (D : hD) (fu : Nat) (S : hS) (a0 : Nat) (x1 : Int32) (x2 : Int32) (x3 : Int32) (z : Unit × hS) (h : fX10_init fu S a0 x1 x2 x3 = some z) : hM l D yX10_init cX10_init 4 none 1 15 14 4504 [va_rf (some a0), .int x1, .int x2, .int x3] S none z.2 := by
  refine h_body [.inr (some a0), .inl x1, .inl x2, .inl x3] RX10 (by decide) rfl (Nat.le_of_ble_eq_true rfl) ?_
  intro p e s m args below meth c C hin ls hV hl
  obtain ⟨-, hx, hb, hml, hown, hr, hlk, hK, hts⟩ := id C
  unfold fX10_init at h
  refine hr_aload_n hx hb dX10_init_0 rfl (hr_at hl 0 rfl) ?_
  refine h_oinit hx hb (hl.1.trans hml.symm) hown hts wd699 wd97 wd98 (Nat.le_of_ble_eq_true rfl) (hW_okL [] (Nat.le_of_ble_eq_true rfl)) dX10_init_1 ?_
  refine hr_aload_n hx hb dX10_init_4 rfl (hr_at hl 0 rfl) ?_
  refine lv_bipush (v := 24) hx hb dX10_init_5 (by decide) ?_
  obtain ⟨v1, S2, g3, h4⟩ := hbn2 h; clear h
  refine h_newa (atype := .int) (q := (D.2.1, .int)) hx hb hK (hts _ wd141) rfl (by decide) rfl (fun h => h) hV g3 (by decide) (Nat.le_of_ble_eq_true rfl) (Nat.le_of_ble_eq_true rfl) dX10_init_7 (fun H hV => ?_)
  obtain ⟨S5, g6, h7⟩ := hbind h4; clear h4
  refine h_put hx hb hown hV g6 (fpRX10_9 hts hK hown hin) (h_narA _) (h_fitA _) dX10_init_9 (fun H locs hV => ?_)
  refine hr_aload_n hx hb dX10_init_12 rfl (hr_at hl 0 rfl) ?_
  refine lv_bipush (v := 24) hx hb dX10_init_13 (by decide) ?_
  obtain ⟨v8, S9, g10, h11⟩ := hbn2 h7; clear h7
  refine h_newa (atype := .int) (q := (D.2.1, .int)) hx hb hK (hts _ wd141) rfl (by decide) rfl (fun h => h) hV g10 (by decide) (Nat.le_of_ble_eq_true rfl) (Nat.le_of_ble_eq_true rfl) dX10_init_15 (fun H hV => ?_)
  obtain ⟨S12, g13, h14⟩ := hbind h11; clear h11
  refine h_put hx hb hown hV g13 (fpRX10_13 hts hK hown hin) (h_narA _) (h_fitA _) dX10_init_17 (fun H locs hV => ?_)
  refine hr_aload_n hx hb dX10_init_20 rfl (hr_at hl 0 rfl) ?_
  refine lv_bipush (v := 24) hx hb dX10_init_21 (by decide) ?_
  obtain ⟨v15, S16, g17, h18⟩ := hbn2 h14; clear h14
  refine h_newa (atype := .int) (q := (D.2.1, .int)) hx hb hK (hts _ wd141) rfl (by decide) rfl (fun h => h) hV g17 (by decide) (Nat.le_of_ble_eq_true rfl) (Nat.le_of_ble_eq_true rfl) dX10_init_23 (fun H hV => ?_)
  obtain ⟨S19, g20, h21⟩ := hbind h18; clear h18
  refine h_put hx hb hown hV g20 (fpRX10_16 hts hK hown hin) (h_narA _) (h_fitA _) dX10_init_25 (fun H locs hV => ?_)
  refine hr_aload_n hx hb dX10_init_28 rfl (hr_at hl 0 rfl) ?_
  refine lv_bipush (v := 24) hx hb dX10_init_29 (by decide) ?_
  obtain ⟨v22, S23, g24, h25⟩ := hbn2 h21; clear h21
  refine h_newa (atype := .int) (q := (D.2.1, .int)) hx hb hK (hts _ wd141) rfl (by decide) rfl (fun h => h) hV g24 (by decide) (Nat.le_of_ble_eq_true rfl) (Nat.le_of_ble_eq_true rfl) dX10_init_31 (fun H hV => ?_)
  obtain ⟨S26, g27, h28⟩ := hbind h25; clear h25
  refine h_put hx hb hown hV g27 (fpRX10_19 hts hK hown hin) (h_narA _) (h_fitA _) dX10_init_33 (fun H locs hV => ?_)
  refine hr_aload_n hx hb dX10_init_36 rfl (hr_at hl 0 rfl) ?_
  refine lv_bipush (v := 24) hx hb dX10_init_37 (by decide) ?_
  obtain ⟨v29, S30, g31, h32⟩ := hbn2 h28; clear h28
  refine h_newa (atype := .int) (q := (D.2.1, .int)) hx hb hK (hts _ wd141) rfl (by decide) rfl (fun h => h) hV g31 (by decide) (Nat.le_of_ble_eq_true rfl) (Nat.le_of_ble_eq_true rfl) dX10_init_39 (fun H hV => ?_)
  obtain ⟨S33, g34, h35⟩ := hbind h32; clear h32
  refine h_put hx hb hown hV g34 (fpRX10_22 hts hK hown hin) (h_narA _) (h_fitA _) dX10_init_41 (fun H locs hV => ?_)
  refine hr_aload_n hx hb dX10_init_44 rfl (hr_at hl 0 rfl) ?_
  refine lv_bipush (v := 24) hx hb dX10_init_45 (by decide) ?_
  obtain ⟨v36, S37, g38, h39⟩ := hbn2 h35; clear h35
  refine h_newa (atype := .int) (q := (D.2.1, .int)) hx hb hK (hts _ wd141) rfl (by decide) rfl (fun h => h) hV g38 (by decide) (Nat.le_of_ble_eq_true rfl) (Nat.le_of_ble_eq_true rfl) dX10_init_47 (fun H hV => ?_)
  obtain ⟨S40, g41, h42⟩ := hbind h39; clear h39
  refine h_put hx hb hown hV g41 (fpRX10_25 hts hK hown hin) (h_narA _) (h_fitA _) dX10_init_49 (fun H locs hV => ?_)
  refine hr_aload_n hx hb dX10_init_52 rfl (hr_at hl 0 rfl) ?_
  refine lv_bipush (v := 24) hx hb dX10_init_53 (by decide) ?_
  obtain ⟨v43, S44, g45, h46⟩ := hbn2 h42; clear h42
  refine h_newa (atype := .int) (q := (D.2.1, .int)) hx hb hK (hts _ wd141) rfl (by decide) rfl (fun h => h) hV g45 (by decide) (Nat.le_of_ble_eq_true rfl) (Nat.le_of_ble_eq_true rfl) dX10_init_55 (fun H hV => ?_)
  obtain ⟨S47, g48, h49⟩ := hbind h46; clear h46
  refine h_put hx hb hown hV g48 (fpRX10_28 hts hK hown hin) (h_narA _) (h_fitA _) dX10_init_57 (fun H locs hV => ?_)
  refine hr_aload_n hx hb dX10_init_60 rfl (hr_at hl 0 rfl) ?_
  refine lv_bipush (v := 24) hx hb dX10_init_61 (by decide) ?_
  obtain ⟨v50, S51, g52, h53⟩ := hbn2 h49; clear h49
  refine h_newa (atype := .int) (q := (D.2.1, .int)) hx hb hK (hts _ wd141) rfl (by decide) rfl (fun h => h) hV g52 (by decide) (Nat.le_of_ble_eq_true rfl) (Nat.le_of_ble_eq_true rfl) dX10_init_63 (fun H hV => ?_)
  obtain ⟨S54, g55, h56⟩ := hbind h53; clear h53
  refine h_put hx hb hown hV g55 (fpRX10_31 hts hK hown hin) (h_narA _) (h_fitA _) dX10_init_65 (fun H locs hV => ?_)
  refine hr_aload_n hx hb dX10_init_68 rfl (hr_at hl 0 rfl) ?_
  refine lv_bipush (v := 24) hx hb dX10_init_69 (by decide) ?_
  obtain ⟨v57, S58, g59, h60⟩ := hbn2 h56; clear h56
  refine h_newa (atype := .int) (q := (D.2.1, .int)) hx hb hK (hts _ wd141) rfl (by decide) rfl (fun h => h) hV g59 (by decide) (Nat.le_of_ble_eq_true rfl) (Nat.le_of_ble_eq_true rfl) dX10_init_71 (fun H hV => ?_)
  obtain ⟨S61, g62, h63⟩ := hbind h60; clear h60
  refine h_put hx hb hown hV g62 (fpRX10_34 hts hK hown hin) (h_narA _) (h_fitA _) dX10_init_73 (fun H locs hV => ?_)
  refine hr_aload_n hx hb dX10_init_76 rfl (hr_at hl 0 rfl) ?_
  refine lv_bipush (v := 24) hx hb dX10_init_77 (by decide) ?_
  obtain ⟨v64, S65, g66, h67⟩ := hbn2 h63; clear h63
  refine h_newa (atype := .int) (q := (D.2.1, .int)) hx hb hK (hts _ wd141) rfl (by decide) rfl (fun h => h) hV g66 (by decide) (Nat.le_of_ble_eq_true rfl) (Nat.le_of_ble_eq_true rfl) dX10_init_79 (fun H hV => ?_)
  obtain ⟨S68, g69, h70⟩ := hbind h67; clear h67
  refine h_put hx hb hown hV g69 (fpRX10_37 hts hK hown hin) (h_narA _) (h_fitA _) dX10_init_81 (fun H locs hV => ?_)
  refine hr_aload_n hx hb dX10_init_84 rfl (hr_at hl 0 rfl) ?_
  refine lv_bipush (v := 24) hx hb dX10_init_85 (by decide) ?_
  obtain ⟨v71, S72, g73, h74⟩ := hbn2 h70; clear h70
  refine h_newa (atype := .boolean) (q := (D.2.2.1, .boolean)) hx hb hK (hts _ wd799) rfl (by decide) rfl (fun h => h) hV g73 (by decide) (Nat.le_of_ble_eq_true rfl) (Nat.le_of_ble_eq_true rfl) dX10_init_87 (fun H hV => ?_)
  obtain ⟨S75, g76, h77⟩ := hbind h74; clear h74
  refine h_put hx hb hown hV g76 (fpRX10_40 hts hK hown hin) (h_narA _) (h_fitA _) dX10_init_89 (fun H locs hV => ?_)
  refine hr_aload_n hx hb dX10_init_92 rfl (hr_at hl 0 rfl) ?_
  refine lv_sipush (v := 1000) hx hb dX10_init_93 (by decide) ?_
  obtain ⟨v78, S79, g80, h81⟩ := hbn2 h77; clear h77
  refine h_newa (atype := .int) (q := (D.2.1, .int)) hx hb hK (hts _ wd141) rfl (by decide) rfl (fun h => h) hV g80 (by decide) (Nat.le_of_ble_eq_true rfl) (Nat.le_of_ble_eq_true rfl) dX10_init_96 (fun H hV => ?_)
  obtain ⟨S82, g83, h84⟩ := hbind h81; clear h81
  refine h_put hx hb hown hV g83 (fpRX10_44 hts hK hown hin) (h_narA _) (h_fitA _) dX10_init_98 (fun H locs hV => ?_)
  refine hr_aload_n hx hb dX10_init_101 rfl (hr_at hl 0 rfl) ?_
  refine lv_sipush (v := 240) hx hb dX10_init_102 (by decide) ?_
  obtain ⟨v85, S86, g87, h88⟩ := hbn2 h84; clear h84
  refine h_newa (atype := .int) (q := (D.2.1, .int)) hx hb hK (hts _ wd141) rfl (by decide) rfl (fun h => h) hV g87 (by decide) (Nat.le_of_ble_eq_true rfl) (Nat.le_of_ble_eq_true rfl) dX10_init_105 (fun H hV => ?_)
  obtain ⟨S89, g90, h91⟩ := hbind h88; clear h88
  refine h_put hx hb hown hV g90 (fpRX10_47 hts hK hown hin) (h_narA _) (h_fitA _) dX10_init_107 (fun H locs hV => ?_)
  refine hr_aload_n hx hb dX10_init_110 rfl (hr_at hl 0 rfl) ?_
  refine lv_bipush (v := 8) hx hb dX10_init_111 (by decide) ?_
  refine lv_sipush (v := 3000) hx hb dX10_init_113 (by decide) ?_
  refine lv_iload_n hx hb dX10_init_116 rfl (hi_at hl 1 rfl) ?_
  refine h_mmin hx hb (hml.trans hl.1.symm) hown hts wd700 wd105 wd80 wd106 (Nat.le_of_ble_eq_true rfl) (hW_okL [.inl (8 : Int32), .inr (some a0)] (Nat.le_of_ble_eq_true rfl)) (Nat.le_of_ble_eq_true rfl) (Nat.le_of_ble_eq_true rfl) dX10_init_117 ?_
  refine h_mmax hx hb (hml.trans hl.1.symm) hown hts wd701 wd108 wd80 wd109 (Nat.le_of_ble_eq_true rfl) (hW_okL [.inr (some a0)] (Nat.le_of_ble_eq_true rfl)) (Nat.le_of_ble_eq_true rfl) (Nat.le_of_ble_eq_true rfl) dX10_init_120 ?_
  obtain ⟨S92, g93, h94⟩ := hbind h91; clear h91
  refine h_put hx hb hown hV g93 (fpRX10_59 hts hK hown hin) rfl rfl dX10_init_123 (fun H locs hV => ?_)
  refine hr_aload_n hx hb dX10_init_126 rfl (hr_at hl 0 rfl) ?_
  refine lv_iconst (v := 1) hx hb dX10_init_127 (by decide) ?_
  refine lv_bipush (v := 24) hx hb dX10_init_128 (by decide) ?_
  refine lv_iload_n hx hb dX10_init_130 rfl (hi_at hl 2 rfl) ?_
  refine h_mmin hx hb (hml.trans hl.1.symm) hown hts wd700 wd105 wd80 wd106 (Nat.le_of_ble_eq_true rfl) (hW_okL [.inl (1 : Int32), .inr (some a0)] (Nat.le_of_ble_eq_true rfl)) (Nat.le_of_ble_eq_true rfl) (Nat.le_of_ble_eq_true rfl) dX10_init_131 ?_
  refine h_mmax hx hb (hml.trans hl.1.symm) hown hts wd701 wd108 wd80 wd109 (Nat.le_of_ble_eq_true rfl) (hW_okL [.inr (some a0)] (Nat.le_of_ble_eq_true rfl)) (Nat.le_of_ble_eq_true rfl) (Nat.le_of_ble_eq_true rfl) dX10_init_134 ?_
  obtain ⟨S95, g96, h97⟩ := hbind h94; clear h94
  refine h_put hx hb hown hV g96 (fpRX10_63 hts hK hown hin) rfl rfl dX10_init_137 (fun H locs hV => ?_)
  refine hr_aload_n hx hb dX10_init_140 rfl (hr_at hl 0 rfl) ?_
  refine lv_iconst (v := 1) hx hb dX10_init_141 (by decide) ?_
  refine lv_sipush (v := 200) hx hb dX10_init_142 (by decide) ?_
  refine lv_iload_n hx hb dX10_init_145 rfl (hi_at hl 3 rfl) ?_
  refine h_mmin hx hb (hml.trans hl.1.symm) hown hts wd700 wd105 wd80 wd106 (Nat.le_of_ble_eq_true rfl) (hW_okL [.inl (1 : Int32), .inr (some a0)] (Nat.le_of_ble_eq_true rfl)) (Nat.le_of_ble_eq_true rfl) (Nat.le_of_ble_eq_true rfl) dX10_init_146 ?_
  refine h_mmax hx hb (hml.trans hl.1.symm) hown hts wd701 wd108 wd80 wd109 (Nat.le_of_ble_eq_true rfl) (hW_okL [.inr (some a0)] (Nat.le_of_ble_eq_true rfl)) (Nat.le_of_ble_eq_true rfl) (Nat.le_of_ble_eq_true rfl) dX10_init_149 ?_
  obtain ⟨S98, g99, h100⟩ := hbind h97; clear h97
  refine h_put hx hb hown hV g99 (fpRX10_66 hts hK hown hin) rfl rfl dX10_init_152 (fun H locs hV => ?_)
  refine hr_aload_n hx hb dX10_init_155 rfl (hr_at hl 0 rfl) ?_
  refine hr_aload_n hx hb dX10_init_156 rfl (hr_at hl 0 rfl) ?_
  obtain ⟨v101, g102, h103⟩ := hbind h100; clear h100
  refine h_gI hx hb hown hV g102 (flRX10_59 hts hK) dX10_init_157 ?_
  obtain ⟨v104, S105, g106, h107⟩ := hbn2 h103; clear h103
  refine h_newa (atype := .int) (q := (D.2.1, .int)) hx hb hK (hts _ wd141) rfl (by decide) rfl (fun h => h) hV g106 (by decide) (Nat.le_of_ble_eq_true rfl) (Nat.le_of_ble_eq_true rfl) dX10_init_160 (fun H hV => ?_)
  obtain ⟨S108, g109, h110⟩ := hbind h107; clear h107
  refine h_put hx hb hown hV g109 (fpRX10_69 hts hK hown hin) (h_narA _) (h_fitA _) dX10_init_162 (fun H locs hV => ?_)
  exact h_vret hx hb hr hlk hV h110 (Nat.le_of_ble_eq_true rfl) (Nat.le_of_ble_eq_true rfl) dX10_init_165
def fX10_bufferSize (fu : Nat) (S : hS) (a0 : Nat) (x1 : Int32) : Option (Int32 × hS) := (gR S 9 6 (some a0)).bind fun v1 => (aI S 10 v1 x1).bind fun v4 => if v4 = (2 : Int32) then ((gR S 9 5 (some a0)).bind fun v15 =>
(aI S 10 v15 x1).bind fun v18 =>
some (v18, S)) else ((gR S 9 6 (some a0)).bind fun v8 =>
(aI S 10 v8 x1).bind fun v11 =>
if v11 = (4 : Int32) then (some ((24 : Int32), S)) else (some ((0 : Int32), S)))
set_option maxHeartbeats 4000000 in
set_option maxRecDepth 100000 in
theorem mX10_bufferSize (l : Launch) (D : hD) (fu : Nat) (S : hS) (a0 : Nat) (x1 : Int32) (z : Int32 × hS) (h : fX10_bufferSize fu S a0 x1 = some z) : hM l D yX10_bufferSize cX10_bufferSize 2 (some .int) 0 0 0 0 [va_rf (some a0), .int x1] S (some (.int z.1)) z.2 := by
  refine h_body [.inr (some a0), .inl x1] RX10 (by decide) rfl (Nat.le_of_ble_eq_true rfl) ?_
  intro p e s m args below meth c C hin ls hV hl
  obtain ⟨-, hx, hb, hml, hown, hr, hlk, hK, hts⟩ := id C
  unfold fX10_bufferSize at h
  refine hr_aload_n hx hb dX10_bufferSize_0 rfl (hr_at hl 0 rfl) ?_
  obtain ⟨v1, g2, h3⟩ := hbind h; clear h
  refine h_gR hx hb hown hV g2 (flRX10_16 hts hK) dX10_bufferSize_1 ?_
  refine lv_iload_n hx hb dX10_bufferSize_4 rfl (hi_at hl 1 rfl) ?_
  obtain ⟨v4, g5, h6⟩ := hbind h3; clear h3
  refine h_iald hx hb hK hV g5 dX10_bufferSize_5 ?_
  refine lv_iconst (v := 2) hx hb dX10_bufferSize_6 (by decide) ?_
  refine lv_icmp_ne (tgt := 19) hx hb dX10_bufferSize_7 (by decide) (fun c7 => ?_) (fun c7 => ?_)
  · rw [if_neg c7] at h6
    refine hr_aload_n hx hb dX10_bufferSize_19 rfl (hr_at hl 0 rfl) ?_
    obtain ⟨v8, g9, h10⟩ := hbind h6; clear h6
    refine h_gR hx hb hown hV g9 (flRX10_16 hts hK) dX10_bufferSize_20 ?_
    refine lv_iload_n hx hb dX10_bufferSize_23 rfl (hi_at hl 1 rfl) ?_
    obtain ⟨v11, g12, h13⟩ := hbind h10; clear h10
    refine h_iald hx hb hK hV g12 dX10_bufferSize_24 ?_
    refine lv_iconst (v := 4) hx hb dX10_bufferSize_25 (by decide) ?_
    refine lv_icmp_ne (tgt := 34) hx hb dX10_bufferSize_26 (by decide) (fun c14 => ?_) (fun c14 => ?_)
    · rw [if_neg c14] at h13
      refine lv_iconst (v := 0) hx hb dX10_bufferSize_34 (by decide) ?_
      exact h_iret hx hb hr hlk hV h13 (Nat.le_of_ble_eq_true rfl) (Nat.le_of_ble_eq_true rfl) dX10_bufferSize_35
    · rw [if_pos c14] at h13
      refine lv_bipush (v := 24) hx hb dX10_bufferSize_29 (by decide) ?_
      refine lv_goto (tgt := 35) hx hb dX10_bufferSize_31 (by decide) ?_
      exact h_iret hx hb hr hlk hV h13 (Nat.le_of_ble_eq_true rfl) (Nat.le_of_ble_eq_true rfl) dX10_bufferSize_35
  · rw [if_pos c7] at h6
    refine hr_aload_n hx hb dX10_bufferSize_10 rfl (hr_at hl 0 rfl) ?_
    obtain ⟨v15, g16, h17⟩ := hbind h6; clear h6
    refine h_gR hx hb hown hV g16 (flRX10_13 hts hK) dX10_bufferSize_11 ?_
    refine lv_iload_n hx hb dX10_bufferSize_14 rfl (hi_at hl 1 rfl) ?_
    obtain ⟨v18, g19, h20⟩ := hbind h17; clear h17
    refine h_iald hx hb hK hV g19 dX10_bufferSize_15 ?_
    refine lv_goto (tgt := 35) hx hb dX10_bufferSize_16 (by decide) ?_
    exact h_iret hx hb hr hlk hV h20 (Nat.le_of_ble_eq_true rfl) (Nat.le_of_ble_eq_true rfl) dX10_bufferSize_35
def fX10_has (fu : Nat) (S : hS) (a0 : Nat) (x1 : Int32) : Option (Int32 × hS) := (gR S 9 4 (some a0)).bind fun v1 => (aI S 10 v1 x1).bind fun v4 => if v4 = 0 then ((zz (0 : Int32)).bind (fun v => some (v, S))) else ((zz (1 : Int32)).bind (fun v => some (v, S)))
set_option maxHeartbeats 4000000 in
set_option maxRecDepth 100000 in
theorem mX10_has (l : Launch) (D : hD) (fu : Nat) (S : hS) (a0 : Nat) (x1 : Int32) (z : Int32 × hS) (h : fX10_has fu S a0 x1 = some z) : hM l D yX10_has cX10_has 2 (some .boolean) 0 0 0 0 [va_rf (some a0), .int x1] S (some (.int z.1)) z.2 := by
  refine h_body [.inr (some a0), .inl x1] RX10 (by decide) rfl (Nat.le_of_ble_eq_true rfl) ?_
  intro p e s m args below meth c C hin ls hV hl
  obtain ⟨-, hx, hb, hml, hown, hr, hlk, hK, hts⟩ := id C
  unfold fX10_has at h
  refine hr_aload_n hx hb dX10_has_0 rfl (hr_at hl 0 rfl) ?_
  obtain ⟨v1, g2, h3⟩ := hbind h; clear h
  refine h_gR hx hb hown hV g2 (flRX10_9 hts hK) dX10_has_1 ?_
  refine lv_iload_n hx hb dX10_has_4 rfl (hi_at hl 1 rfl) ?_
  obtain ⟨v4, g5, h6⟩ := hbind h3; clear h3
  refine h_iald hx hb hK hV g5 dX10_has_5 ?_
  refine lv_if_eq (tgt := 13) hx hb dX10_has_6 (by decide) (fun c7 => ?_) (fun c7 => ?_)
  · rw [if_pos c7] at h6
    refine lv_iconst (v := 0) hx hb dX10_has_13 (by decide) ?_
    exact h_zret hx hb hr hlk hV h6 (Nat.le_of_ble_eq_true rfl) (Nat.le_of_ble_eq_true rfl) dX10_has_14
  · rw [if_neg c7] at h6
    refine lv_iconst (v := 1) hx hb dX10_has_9 (by decide) ?_
    refine lv_goto (tgt := 14) hx hb dX10_has_10 (by decide) ?_
    exact h_zret hx hb hr hlk hV h6 (Nat.le_of_ble_eq_true rfl) (Nat.le_of_ble_eq_true rfl) dX10_has_14
def fX10_nextFrom_98 (fu : Nat) (k10 : hS → Nat → Int32 → Int32 → Int32 → Int32 → Option (Int32 × hS)) (S : hS) (a0 : Nat) (x1 : Int32) (x2 : Int32) (x3 : Int32) (x4 : Int32) : Option (Int32 × hS) := k10 S a0 x1 x2 x3 (x4 + (1 : Int32))
set_option maxHeartbeats 4000000 in
set_option maxRecDepth 100000 in
theorem kX10_nextFrom_98 {p : Program} {l : Launch} {e : Env} {s : State} {m : MethodId} {args : Array Value} {below : List Frame} {meth : Method} {c : Code} {D : hD} {S0 : hS} {z : Int32 × hS} (C : hCx p m c cX10_nextFrom 5 s args RX10 meth (some .int) D) (fu : Nat) (k10 : hS → Nat → Int32 → Int32 → Int32 → Int32 → Option (Int32 × hS)) (hk10 : ∀ (S : hS) (a0 : Nat) (x1 : Int32) (x2 : Int32) (x3 : Int32) (x4 : Int32) (H : Heap) (locs : List Loc) (ls : Array Slot), k10 S a0 x1 x2 x3 x4 = some z → h_V D (h_A S0) s S H locs → hl_has ls 5 [(0, .inr (some a0)), (1, .inl x1), (2, .inl x2), (3, .inl x3), (4, .inl x4)] → W p l e { frames := 1, cells := 0, slots := 0, locals := 21 } s m args below meth c H locs 0 0 (MQ below (h_Q D (h_A S0) (some (.int z.1)) z.2) args s 0 0 (h_A S0)) (F0 m 10 ls [])) : ∀ (S : hS) (a0 : Nat) (x1 : Int32) (x2 : Int32) (x3 : Int32) (x4 : Int32) (H : Heap) (locs : List Loc) (ls : Array Slot), fX10_nextFrom_98 fu k10 S a0 x1 x2 x3 x4 = some z → h_V D (h_A S0) s S H locs → hl_has ls 5 [(0, .inr (some a0)), (1, .inl x1), (2, .inl x2), (3, .inl x3), (4, .inl x4)] → W p l e { frames := 1, cells := 0, slots := 0, locals := 21 } s m args below meth c H locs 0 0 (MQ below (h_Q D (h_A S0) (some (.int z.1)) z.2) args s 0 0 (h_A S0)) (F0 m 98 ls []) := by
  obtain ⟨-, hx, hb, hml, hown, hr, hlk, hK, hts⟩ := id C
  intro S a0 x1 x2 x3 x4 _ _ _ h hV hl
  unfold fX10_nextFrom_98 at h
  refine h_iinc (v := (x4 + (1 : Int32))) (tl' := [(4, .inl (x4 + (1 : Int32))), (0, .inr (some a0)), (1, .inl x1), (2, .inl x2), (3, .inl x3)]) hx hb dX10_nextFrom_98 hl (k := 4) rfl rfl (by decide) rfl (fun ls hl => ?_)
  refine lv_goto (tgt := 10) hx hb dX10_nextFrom_101 (by decide) ?_
  exact hk10 S a0 x1 x2 x3 (x4 + (1 : Int32)) _ _ _ h hV (hl_sub hl [1, 2, 3, 4, 0] rfl)
def fX10_nextFrom_62 (fu : Nat) (k10 : hS → Nat → Int32 → Int32 → Int32 → Int32 → Option (Int32 × hS)) (S : hS) (a0 : Nat) (x1 : Int32) (x2 : Int32) (x3 : Int32) (x4 : Int32) : Option (Int32 × hS) := (gR S 9 10 (some a0)).bind fun v1 => (aI S 10 v1 x4).bind fun v4 => if v4 < x1 then (fX10_nextFrom_98 fu k10 S a0 x1 x2 x3 x4) else ((gR S 9 10 (some a0)).bind fun v8 =>
(aI S 10 v8 x4).bind fun v11 =>
if x3 ≤ v11 then (fX10_nextFrom_98 fu k10 S a0 x1 x2 x3 x4) else ((gR S 9 10 (some a0)).bind fun v15 =>
(aI S 10 v15 x4).bind fun v18 =>
fX10_nextFrom_98 fu k10 S a0 x1 ((100 : Int32) + x4) v18 x4))
set_option maxHeartbeats 4000000 in
set_option maxRecDepth 100000 in
theorem kX10_nextFrom_62 {p : Program} {l : Launch} {e : Env} {s : State} {m : MethodId} {args : Array Value} {below : List Frame} {meth : Method} {c : Code} {D : hD} {S0 : hS} {z : Int32 × hS} (C : hCx p m c cX10_nextFrom 5 s args RX10 meth (some .int) D) (fu : Nat) (k10 : hS → Nat → Int32 → Int32 → Int32 → Int32 → Option (Int32 × hS)) (hk10 : ∀ (S : hS) (a0 : Nat) (x1 : Int32) (x2 : Int32) (x3 : Int32) (x4 : Int32) (H : Heap) (locs : List Loc) (ls : Array Slot), k10 S a0 x1 x2 x3 x4 = some z → h_V D (h_A S0) s S H locs → hl_has ls 5 [(0, .inr (some a0)), (1, .inl x1), (2, .inl x2), (3, .inl x3), (4, .inl x4)] → W p l e { frames := 1, cells := 0, slots := 0, locals := 21 } s m args below meth c H locs 0 0 (MQ below (h_Q D (h_A S0) (some (.int z.1)) z.2) args s 0 0 (h_A S0)) (F0 m 10 ls [])) : ∀ (S : hS) (a0 : Nat) (x1 : Int32) (x2 : Int32) (x3 : Int32) (x4 : Int32) (H : Heap) (locs : List Loc) (ls : Array Slot), fX10_nextFrom_62 fu k10 S a0 x1 x2 x3 x4 = some z → h_V D (h_A S0) s S H locs → hl_has ls 5 [(0, .inr (some a0)), (1, .inl x1), (2, .inl x2), (3, .inl x3), (4, .inl x4)] → W p l e { frames := 1, cells := 0, slots := 0, locals := 21 } s m args below meth c H locs 0 0 (MQ below (h_Q D (h_A S0) (some (.int z.1)) z.2) args s 0 0 (h_A S0)) (F0 m 62 ls []) := by
  obtain ⟨-, hx, hb, hml, hown, hr, hlk, hK, hts⟩ := id C
  intro S a0 x1 x2 x3 x4 _ _ _ h hV hl
  unfold fX10_nextFrom_62 at h
  refine hr_aload_n hx hb dX10_nextFrom_62 rfl (hr_at hl 0 rfl) ?_
  obtain ⟨v1, g2, h3⟩ := hbind h; clear h
  refine h_gR hx hb hown hV g2 (flRX10_28 hts hK) dX10_nextFrom_63 ?_
  refine lv_iload hx hb dX10_nextFrom_66 (hi_at hl 4 rfl) ?_
  obtain ⟨v4, g5, h6⟩ := hbind h3; clear h3
  refine h_iald hx hb hK hV g5 dX10_nextFrom_68 ?_
  refine lv_iload_n hx hb dX10_nextFrom_69 rfl (hi_at hl 1 rfl) ?_
  refine lv_icmp_lt (tgt := 98) hx hb dX10_nextFrom_70 (by decide) (fun c7 => ?_) (fun c7 => ?_)
  · rw [if_pos c7] at h6
    exact kX10_nextFrom_98 C fu k10 hk10 S a0 x1 x2 x3 x4 _ _ _ h6 hV (hl_sub hl [0, 1, 2, 3, 4] rfl)
  · rw [if_neg c7] at h6
    refine hr_aload_n hx hb dX10_nextFrom_73 rfl (hr_at hl 0 rfl) ?_
    obtain ⟨v8, g9, h10⟩ := hbind h6; clear h6
    refine h_gR hx hb hown hV g9 (flRX10_28 hts hK) dX10_nextFrom_74 ?_
    refine lv_iload hx hb dX10_nextFrom_77 (hi_at hl 4 rfl) ?_
    obtain ⟨v11, g12, h13⟩ := hbind h10; clear h10
    refine h_iald hx hb hK hV g12 dX10_nextFrom_79 ?_
    refine lv_iload_n hx hb dX10_nextFrom_80 rfl (hi_at hl 3 rfl) ?_
    refine lv_icmp_ge (tgt := 98) hx hb dX10_nextFrom_81 (by decide) (fun c14 => ?_) (fun c14 => ?_)
    · rw [if_pos c14] at h13
      exact kX10_nextFrom_98 C fu k10 hk10 S a0 x1 x2 x3 x4 _ _ _ h13 hV (hl_sub hl [0, 1, 2, 3, 4] rfl)
    · rw [if_neg c14] at h13
      refine hr_aload_n hx hb dX10_nextFrom_84 rfl (hr_at hl 0 rfl) ?_
      obtain ⟨v15, g16, h17⟩ := hbind h13; clear h13
      refine h_gR hx hb hown hV g16 (flRX10_28 hts hK) dX10_nextFrom_85 ?_
      refine lv_iload hx hb dX10_nextFrom_88 (hi_at hl 4 rfl) ?_
      obtain ⟨v18, g19, h20⟩ := hbind h17; clear h17
      refine h_iald hx hb hK hV g19 dX10_nextFrom_90 ?_
      refine h_istore_n (tl' := [(3, .inl v18), (0, .inr (some a0)), (1, .inl x1), (2, .inl x2), (4, .inl x4)]) hx hb dX10_nextFrom_91 rfl hl (by decide) rfl (fun ls hl => ?_)
      refine lv_bipush (v := 100) hx hb dX10_nextFrom_92 (by decide) ?_
      refine lv_iload hx hb dX10_nextFrom_94 (hi_at hl 4 rfl) ?_
      refine lv_iadd hx hb dX10_nextFrom_96 ?_
      refine h_istore_n (tl' := [(2, .inl ((100 : Int32) + x4)), (3, .inl v18), (0, .inr (some a0)), (1, .inl x1), (4, .inl x4)]) hx hb dX10_nextFrom_97 rfl hl (by decide) rfl (fun ls hl => ?_)
      exact kX10_nextFrom_98 C fu k10 hk10 S a0 x1 ((100 : Int32) + x4) v18 x4 _ _ _ h20 hV (hl_sub hl [2, 3, 0, 1, 4] rfl)
def fX10_nextFrom_10 (fu : Nat) : Nat → hS → Nat → Int32 → Int32 → Int32 → Int32 → Option (Int32 × hS)
  | 0, _, _, _, _, _, _ => none
  | n + 1, S, a0, x1, x2, x3, x4 => if (24 : Int32) ≤ x4 then (some (x2, S)) else ((rcv S 9 (some a0)).bind fun b4 =>
bn2 (fX10_has fu S b4 x4) fun r2 S3 =>
if r2 = 0 then (fX10_nextFrom_98 fu (fX10_nextFrom_10 fu n) S3 a0 x1 x2 x3 x4) else ((gR S3 9 9 (some a0)).bind fun v11 =>
(aI S3 10 v11 x4).bind fun v14 =>
if v14 < x1 then (fX10_nextFrom_62 fu (fX10_nextFrom_10 fu n) S3 a0 x1 x2 x3 x4) else ((gR S3 9 9 (some a0)).bind fun v18 =>
(aI S3 10 v18 x4).bind fun v21 =>
if x3 ≤ v21 then (fX10_nextFrom_62 fu (fX10_nextFrom_10 fu n) S3 a0 x1 x2 x3 x4) else ((gR S3 9 9 (some a0)).bind fun v25 =>
(aI S3 10 v25 x4).bind fun v28 =>
fX10_nextFrom_62 fu (fX10_nextFrom_10 fu n) S3 a0 x1 x4 v28 x4))))
set_option maxHeartbeats 4000000 in
set_option maxRecDepth 100000 in
theorem kX10_nextFrom_10 {p : Program} {l : Launch} {e : Env} {s : State} {m : MethodId} {args : Array Value} {below : List Frame} {meth : Method} {c : Code} {D : hD} {S0 : hS} {z : Int32 × hS} (C : hCx p m c cX10_nextFrom 5 s args RX10 meth (some .int) D) (fu : Nat) : ∀ (n : Nat) (S : hS) (a0 : Nat) (x1 : Int32) (x2 : Int32) (x3 : Int32) (x4 : Int32) (H : Heap) (locs : List Loc) (ls : Array Slot), fX10_nextFrom_10 fu n S a0 x1 x2 x3 x4 = some z → h_V D (h_A S0) s S H locs → hl_has ls 5 [(0, .inr (some a0)), (1, .inl x1), (2, .inl x2), (3, .inl x3), (4, .inl x4)] → W p l e { frames := 1, cells := 0, slots := 0, locals := 21 } s m args below meth c H locs 0 0 (MQ below (h_Q D (h_A S0) (some (.int z.1)) z.2) args s 0 0 (h_A S0)) (F0 m 10 ls []) := by
  obtain ⟨-, hx, hb, hml, hown, hr, hlk, hK, hts⟩ := id C
  intro n
  induction n with
  | zero =>
    intro S a0 x1 x2 x3 x4 _ _ _ h hV hl
    rw [fX10_nextFrom_10] at h
    cases h
  | succ n ih =>
    intro S a0 x1 x2 x3 x4 _ _ _ h hV hl
    rw [fX10_nextFrom_10] at h
    refine lv_iload hx hb dX10_nextFrom_10 (hi_at hl 4 rfl) ?_
    refine lv_bipush (v := 24) hx hb dX10_nextFrom_12 (by decide) ?_
    refine lv_icmp_ge (tgt := 104) hx hb dX10_nextFrom_14 (by decide) (fun c1 => ?_) (fun c1 => ?_)
    · rw [if_pos c1] at h
      refine lv_iload_n hx hb dX10_nextFrom_104 rfl (hi_at hl 2 rfl) ?_
      exact h_iret hx hb hr hlk hV h (Nat.le_of_ble_eq_true rfl) (Nat.le_of_ble_eq_true rfl) dX10_nextFrom_105
    · rw [if_neg c1] at h
      refine hr_aload_n hx hb dX10_nextFrom_17 rfl (hr_at hl 0 rfl) ?_
      refine lv_iload hx hb dX10_nextFrom_18 (hi_at hl 4 rfl) ?_
      obtain ⟨b4, g5, h6⟩ := hbind h; clear h
      obtain ⟨_, _, e7, q7⟩ := rcv_inv g5
      obtain ⟨r2, S3, g8, h9⟩ := hbn2 h6; clear h6
      refine h_callV (n := 1) (As := [.int x4]) (rest := []) (st1 := [.int r2]) (fr := 0) (lo := 0) (mc := 0) (ms := 0) C.1 hK hV q7 rfl rfl wd807 wd804 wd806 wd43 wd83 ⟨by decide, by decide, by decide⟩ ⟨(Nat.le_of_ble_eq_true rfl), (Nat.le_of_ble_eq_true rfl)⟩ rfl hl.1 (hW_ok [] (Nat.le_of_ble_eq_true rfl)) dX10_nextFrom_20 ⟨(Nat.le_of_ble_eq_true rfl), (Nat.le_of_ble_eq_true rfl)⟩ rfl (by rw [e7]; rfl) (mX10_has l D fu S b4 x4 _ g8) (fun H locs hV => ?_)
      refine lv_if_ne (tgt := 29) hx hb dX10_nextFrom_23 (by decide) (fun c10 => ?_) (fun c10 => ?_)
      · rw [if_neg c10] at h9
        refine hr_aload_n hx hb dX10_nextFrom_29 rfl (hr_at hl 0 rfl) ?_
        obtain ⟨v11, g12, h13⟩ := hbind h9; clear h9
        refine h_gR hx hb hown hV g12 (flRX10_25 hts hK) dX10_nextFrom_30 ?_
        refine lv_iload hx hb dX10_nextFrom_33 (hi_at hl 4 rfl) ?_
        obtain ⟨v14, g15, h16⟩ := hbind h13; clear h13
        refine h_iald hx hb hK hV g15 dX10_nextFrom_35 ?_
        refine lv_iload_n hx hb dX10_nextFrom_36 rfl (hi_at hl 1 rfl) ?_
        refine lv_icmp_lt (tgt := 62) hx hb dX10_nextFrom_37 (by decide) (fun c17 => ?_) (fun c17 => ?_)
        · rw [if_pos c17] at h16
          exact kX10_nextFrom_62 C fu (fX10_nextFrom_10 fu n) ih S3 a0 x1 x2 x3 x4 _ _ _ h16 hV (hl_sub hl [0, 1, 2, 3, 4] rfl)
        · rw [if_neg c17] at h16
          refine hr_aload_n hx hb dX10_nextFrom_40 rfl (hr_at hl 0 rfl) ?_
          obtain ⟨v18, g19, h20⟩ := hbind h16; clear h16
          refine h_gR hx hb hown hV g19 (flRX10_25 hts hK) dX10_nextFrom_41 ?_
          refine lv_iload hx hb dX10_nextFrom_44 (hi_at hl 4 rfl) ?_
          obtain ⟨v21, g22, h23⟩ := hbind h20; clear h20
          refine h_iald hx hb hK hV g22 dX10_nextFrom_46 ?_
          refine lv_iload_n hx hb dX10_nextFrom_47 rfl (hi_at hl 3 rfl) ?_
          refine lv_icmp_ge (tgt := 62) hx hb dX10_nextFrom_48 (by decide) (fun c24 => ?_) (fun c24 => ?_)
          · rw [if_pos c24] at h23
            exact kX10_nextFrom_62 C fu (fX10_nextFrom_10 fu n) ih S3 a0 x1 x2 x3 x4 _ _ _ h23 hV (hl_sub hl [0, 1, 2, 3, 4] rfl)
          · rw [if_neg c24] at h23
            refine hr_aload_n hx hb dX10_nextFrom_51 rfl (hr_at hl 0 rfl) ?_
            obtain ⟨v25, g26, h27⟩ := hbind h23; clear h23
            refine h_gR hx hb hown hV g26 (flRX10_25 hts hK) dX10_nextFrom_52 ?_
            refine lv_iload hx hb dX10_nextFrom_55 (hi_at hl 4 rfl) ?_
            obtain ⟨v28, g29, h30⟩ := hbind h27; clear h27
            refine h_iald hx hb hK hV g29 dX10_nextFrom_57 ?_
            refine h_istore_n (tl' := [(3, .inl v28), (0, .inr (some a0)), (1, .inl x1), (2, .inl x2), (4, .inl x4)]) hx hb dX10_nextFrom_58 rfl hl (by decide) rfl (fun ls hl => ?_)
            refine lv_iload hx hb dX10_nextFrom_59 (hi_at hl 4 rfl) ?_
            refine h_istore_n (tl' := [(2, .inl x4), (3, .inl v28), (0, .inr (some a0)), (1, .inl x1), (4, .inl x4)]) hx hb dX10_nextFrom_61 rfl hl (by decide) rfl (fun ls hl => ?_)
            exact kX10_nextFrom_62 C fu (fX10_nextFrom_10 fu n) ih S3 a0 x1 x4 v28 x4 _ _ _ h30 hV (hl_sub hl [2, 3, 0, 1, 4] rfl)
      · rw [if_pos c10] at h9
        refine lv_goto (tgt := 98) hx hb dX10_nextFrom_26 (by decide) ?_
        exact kX10_nextFrom_98 C fu (fX10_nextFrom_10 fu n) ih S3 a0 x1 x2 x3 x4 _ _ _ h9 hV (hl_sub hl [0, 1, 2, 3, 4] rfl)
def fX10_nextFrom (fu : Nat) (S : hS) (a0 : Nat) (x1 : Int32) : Option (Int32 × hS) := (gI S 9 0 (some a0)).bind fun v1 => fX10_nextFrom_10 fu fu S a0 x1 (-1 : Int32) v1 (0 : Int32)
set_option maxHeartbeats 4000000 in
set_option maxRecDepth 100000 in
theorem mX10_nextFrom (l : Launch) (D : hD) (fu : Nat) (S : hS) (a0 : Nat) (x1 : Int32) (z : Int32 × hS) (h : fX10_nextFrom fu S a0 x1 = some z) : hM l D yX10_nextFrom cX10_nextFrom 5 (some .int) 1 21 0 0 [va_rf (some a0), .int x1] S (some (.int z.1)) z.2 := by
  refine h_body [.inr (some a0), .inl x1] RX10 (by decide) rfl (Nat.le_of_ble_eq_true rfl) ?_
  intro p e s m args below meth c C hin ls hV hl
  obtain ⟨-, hx, hb, hml, hown, hr, hlk, hK, hts⟩ := id C
  unfold fX10_nextFrom at h
  refine lv_iconst (v := -1) hx hb dX10_nextFrom_0 (by decide) ?_
  refine h_istore_n (tl' := [(2, .inl (-1 : Int32)), (0, .inr (some a0)), (1, .inl x1)]) hx hb dX10_nextFrom_1 rfl hl (by decide) rfl (fun ls hl => ?_)
  refine hr_aload_n hx hb dX10_nextFrom_2 rfl (hr_at hl 1 rfl) ?_
  obtain ⟨v1, g2, h3⟩ := hbind h; clear h
  refine h_gI hx hb hown hV g2 (flRX10_59 hts hK) dX10_nextFrom_3 ?_
  refine h_istore_n (tl' := [(3, .inl v1), (2, .inl (-1 : Int32)), (0, .inr (some a0)), (1, .inl x1)]) hx hb dX10_nextFrom_6 rfl hl (by decide) rfl (fun ls hl => ?_)
  refine lv_iconst (v := 0) hx hb dX10_nextFrom_7 (by decide) ?_
  refine h_istore (tl' := [(4, .inl (0 : Int32)), (3, .inl v1), (2, .inl (-1 : Int32)), (0, .inr (some a0)), (1, .inl x1)]) hx hb dX10_nextFrom_8 hl (by decide) rfl (fun ls hl => ?_)
  exact kX10_nextFrom_10 C fu fu S a0 x1 (-1 : Int32) v1 (0 : Int32) _ _ _ h3 hV (hl_sub hl [3, 4, 2, 1, 0] rfl)
def fX10_beginOf (fu : Nat) (S : hS) (a0 : Nat) (x1 : Int32) : Option (Int32 × hS) := if x1 < (100 : Int32) then ((gR S 9 9 (some a0)).bind fun v2 =>
(aI S 10 v2 x1).bind fun v5 =>
some (v5, S)) else ((gR S 9 10 (some a0)).bind fun v8 =>
(aI S 10 v8 (x1 - (100 : Int32))).bind fun v11 =>
some (v11, S))
set_option maxHeartbeats 4000000 in
set_option maxRecDepth 100000 in
theorem mX10_beginOf (l : Launch) (D : hD) (fu : Nat) (S : hS) (a0 : Nat) (x1 : Int32) (z : Int32 × hS) (h : fX10_beginOf fu S a0 x1 = some z) : hM l D yX10_beginOf cX10_beginOf 2 (some .int) 0 0 0 0 [va_rf (some a0), .int x1] S (some (.int z.1)) z.2 := by
  refine h_body [.inr (some a0), .inl x1] RX10 (by decide) rfl (Nat.le_of_ble_eq_true rfl) ?_
  intro p e s m args below meth c C hin ls hV hl
  obtain ⟨-, hx, hb, hml, hown, hr, hlk, hK, hts⟩ := id C
  unfold fX10_beginOf at h
  refine lv_iload_n hx hb dX10_beginOf_0 rfl (hi_at hl 1 rfl) ?_
  refine lv_bipush (v := 100) hx hb dX10_beginOf_1 (by decide) ?_
  refine lv_icmp_lt (tgt := 18) hx hb dX10_beginOf_3 (by decide) (fun c1 => ?_) (fun c1 => ?_)
  · rw [if_pos c1] at h
    refine hr_aload_n hx hb dX10_beginOf_18 rfl (hr_at hl 0 rfl) ?_
    obtain ⟨v2, g3, h4⟩ := hbind h; clear h
    refine h_gR hx hb hown hV g3 (flRX10_25 hts hK) dX10_beginOf_19 ?_
    refine lv_iload_n hx hb dX10_beginOf_22 rfl (hi_at hl 1 rfl) ?_
    obtain ⟨v5, g6, h7⟩ := hbind h4; clear h4
    refine h_iald hx hb hK hV g6 dX10_beginOf_23 ?_
    exact h_iret hx hb hr hlk hV h7 (Nat.le_of_ble_eq_true rfl) (Nat.le_of_ble_eq_true rfl) dX10_beginOf_24
  · rw [if_neg c1] at h
    refine hr_aload_n hx hb dX10_beginOf_6 rfl (hr_at hl 0 rfl) ?_
    obtain ⟨v8, g9, h10⟩ := hbind h; clear h
    refine h_gR hx hb hown hV g9 (flRX10_28 hts hK) dX10_beginOf_7 ?_
    refine lv_iload_n hx hb dX10_beginOf_10 rfl (hi_at hl 1 rfl) ?_
    refine lv_bipush (v := 100) hx hb dX10_beginOf_11 (by decide) ?_
    refine lv_isub hx hb dX10_beginOf_13 ?_
    obtain ⟨v11, g12, h13⟩ := hbind h10; clear h10
    refine h_iald hx hb hK hV g12 dX10_beginOf_14 ?_
    refine lv_goto (tgt := 24) hx hb dX10_beginOf_15 (by decide) ?_
    exact h_iret hx hb hr hlk hV h13 (Nat.le_of_ble_eq_true rfl) (Nat.le_of_ble_eq_true rfl) dX10_beginOf_24
def fX10_sizeOf (fu : Nat) (S : hS) (a0 : Nat) (x1 : Int32) : Option (Int32 × hS) := if x1 < (100 : Int32) then ((gR S 9 5 (some a0)).bind fun v2 =>
(aI S 10 v2 x1).bind fun v5 =>
some (v5, S)) else ((rcv S 9 (some a0)).bind fun b10 =>
bn2 (fX10_bufferSize fu S b10 (x1 - (100 : Int32))) fun r8 S9 =>
some (r8, S9))
set_option maxHeartbeats 4000000 in
set_option maxRecDepth 100000 in
theorem mX10_sizeOf (l : Launch) (D : hD) (fu : Nat) (S : hS) (a0 : Nat) (x1 : Int32) (z : Int32 × hS) (h : fX10_sizeOf fu S a0 x1 = some z) : hM l D yX10_sizeOf cX10_sizeOf 2 (some .int) 1 21 0 0 [va_rf (some a0), .int x1] S (some (.int z.1)) z.2 := by
  refine h_body [.inr (some a0), .inl x1] RX10 (by decide) rfl (Nat.le_of_ble_eq_true rfl) ?_
  intro p e s m args below meth c C hin ls hV hl
  obtain ⟨-, hx, hb, hml, hown, hr, hlk, hK, hts⟩ := id C
  unfold fX10_sizeOf at h
  refine lv_iload_n hx hb dX10_sizeOf_0 rfl (hi_at hl 1 rfl) ?_
  refine lv_bipush (v := 100) hx hb dX10_sizeOf_1 (by decide) ?_
  refine lv_icmp_lt (tgt := 17) hx hb dX10_sizeOf_3 (by decide) (fun c1 => ?_) (fun c1 => ?_)
  · rw [if_pos c1] at h
    refine hr_aload_n hx hb dX10_sizeOf_17 rfl (hr_at hl 0 rfl) ?_
    obtain ⟨v2, g3, h4⟩ := hbind h; clear h
    refine h_gR hx hb hown hV g3 (flRX10_13 hts hK) dX10_sizeOf_18 ?_
    refine lv_iload_n hx hb dX10_sizeOf_21 rfl (hi_at hl 1 rfl) ?_
    obtain ⟨v5, g6, h7⟩ := hbind h4; clear h4
    refine h_iald hx hb hK hV g6 dX10_sizeOf_22 ?_
    exact h_iret hx hb hr hlk hV h7 (Nat.le_of_ble_eq_true rfl) (Nat.le_of_ble_eq_true rfl) dX10_sizeOf_23
  · rw [if_neg c1] at h
    refine hr_aload_n hx hb dX10_sizeOf_6 rfl (hr_at hl 0 rfl) ?_
    refine lv_iload_n hx hb dX10_sizeOf_7 rfl (hi_at hl 1 rfl) ?_
    refine lv_bipush (v := 100) hx hb dX10_sizeOf_8 (by decide) ?_
    refine lv_isub hx hb dX10_sizeOf_10 ?_
    obtain ⟨b10, g11, h12⟩ := hbind h; clear h
    obtain ⟨_, _, e13, q13⟩ := rcv_inv g11
    obtain ⟨r8, S9, g14, h15⟩ := hbn2 h12; clear h12
    refine h_callV (n := 1) (As := [.int (x1 - (100 : Int32))]) (rest := []) (st1 := [.int r8]) (fr := 0) (lo := 0) (mc := 0) (ms := 0) C.1 hK hV q13 rfl rfl wd831 wd828 wd830 wd49 wd83 ⟨by decide, by decide, by decide⟩ ⟨(Nat.le_of_ble_eq_true rfl), (Nat.le_of_ble_eq_true rfl)⟩ rfl hl.1 (hW_ok [] (Nat.le_of_ble_eq_true rfl)) dX10_sizeOf_11 ⟨(Nat.le_of_ble_eq_true rfl), (Nat.le_of_ble_eq_true rfl)⟩ rfl (by rw [e13]; rfl) (mX10_bufferSize l D fu S b10 (x1 - (100 : Int32)) _ g14) (fun H locs hV => ?_)
    refine lv_goto (tgt := 23) hx hb dX10_sizeOf_14 (by decide) ?_
    exact h_iret hx hb hr hlk hV h15 (Nat.le_of_ble_eq_true rfl) (Nat.le_of_ble_eq_true rfl) dX10_sizeOf_23
def fX10_room_33 (fu : Nat) (k2 : hS → Nat → Int32 → Int32 → Option (Int32 × hS)) (S : hS) (a0 : Nat) (x1 : Int32) (x2 : Int32) (x3 : Int32) (t0 : Int32) : Option (Int32 × hS) := if (t0 - x2) < x1 then (if x3 = (-1 : Int32) then (some ((-1 : Int32), S)) else ((rcv S 9 (some a0)).bind fun b5 =>
bn2 (fX10_sizeOf fu S b5 x3) fun r3 S4 =>
k2 S4 a0 x1 (t0 + r3))) else (some (x2, S))
set_option maxHeartbeats 4000000 in
set_option maxRecDepth 100000 in
theorem kX10_room_33 {p : Program} {l : Launch} {e : Env} {s : State} {m : MethodId} {args : Array Value} {below : List Frame} {meth : Method} {c : Code} {D : hD} {S0 : hS} {z : Int32 × hS} (C : hCx p m c cX10_room 5 s args RX10 meth (some .int) D) (fu : Nat) (k2 : hS → Nat → Int32 → Int32 → Option (Int32 × hS)) (hk2 : ∀ (S : hS) (a0 : Nat) (x1 : Int32) (x2 : Int32) (H : Heap) (locs : List Loc) (ls : Array Slot), k2 S a0 x1 x2 = some z → h_V D (h_A S0) s S H locs → hl_has ls 5 [(0, .inr (some a0)), (1, .inl x1), (2, .inl x2)] → W p l e { frames := 2, cells := 0, slots := 0, locals := 45 } s m args below meth c H locs 0 0 (MQ below (h_Q D (h_A S0) (some (.int z.1)) z.2) args s 0 0 (h_A S0)) (F0 m 2 ls [])) : ∀ (S : hS) (a0 : Nat) (x1 : Int32) (x2 : Int32) (x3 : Int32) (t0 : Int32) (H : Heap) (locs : List Loc) (ls : Array Slot), fX10_room_33 fu k2 S a0 x1 x2 x3 t0 = some z → h_V D (h_A S0) s S H locs → hl_has ls 5 [(0, .inr (some a0)), (1, .inl x1), (2, .inl x2), (3, .inl x3)] → W p l e { frames := 2, cells := 0, slots := 0, locals := 45 } s m args below meth c H locs 0 0 (MQ below (h_Q D (h_A S0) (some (.int z.1)) z.2) args s 0 0 (h_A S0)) (F0 m 33 ls [.int t0]) := by
  obtain ⟨-, hx, hb, hml, hown, hr, hlk, hK, hts⟩ := id C
  intro S a0 x1 x2 x3 t0 _ _ _ h hV hl
  unfold fX10_room_33 at h
  refine h_istore (tl' := [(4, .inl t0), (0, .inr (some a0)), (1, .inl x1), (2, .inl x2), (3, .inl x3)]) hx hb dX10_room_33 hl (by decide) rfl (fun ls hl => ?_)
  refine lv_iload hx hb dX10_room_35 (hi_at hl 0 rfl) ?_
  refine lv_iload_n hx hb dX10_room_37 rfl (hi_at hl 3 rfl) ?_
  refine lv_isub hx hb dX10_room_38 ?_
  refine lv_iload_n hx hb dX10_room_39 rfl (hi_at hl 2 rfl) ?_
  refine lv_icmp_lt (tgt := 45) hx hb dX10_room_40 (by decide) (fun c1 => ?_) (fun c1 => ?_)
  · rw [if_pos c1] at h
    refine lv_iload_n hx hb dX10_room_45 rfl (hi_at hl 4 rfl) ?_
    refine lv_iconst (v := -1) hx hb dX10_room_46 (by decide) ?_
    refine lv_icmp_ne (tgt := 52) hx hb dX10_room_47 (by decide) (fun c2 => ?_) (fun c2 => ?_)
    · rw [if_neg c2] at h
      refine lv_iload hx hb dX10_room_52 (hi_at hl 0 rfl) ?_
      refine hr_aload_n hx hb dX10_room_54 rfl (hr_at hl 1 rfl) ?_
      refine lv_iload_n hx hb dX10_room_55 rfl (hi_at hl 4 rfl) ?_
      obtain ⟨b5, g6, h7⟩ := hbind h; clear h
      obtain ⟨_, _, e8, q8⟩ := rcv_inv g6
      obtain ⟨r3, S4, g9, h10⟩ := hbn2 h7; clear h7
      refine h_callV (n := 1) (As := [.int x3]) (rest := [.int t0]) (st1 := [.int r3, .int t0]) (fr := 1) (lo := 21) (mc := 0) (ms := 0) C.1 hK hV q8 rfl rfl wd827 wd824 wd826 wd48 wd83 ⟨by decide, by decide, by decide⟩ ⟨(Nat.le_of_ble_eq_true rfl), (Nat.le_of_ble_eq_true rfl)⟩ rfl hl.1 (hW_ok [.inl t0] (Nat.le_of_ble_eq_true rfl)) dX10_room_56 ⟨(Nat.le_of_ble_eq_true rfl), (Nat.le_of_ble_eq_true rfl)⟩ rfl (by rw [e8]; rfl) (mX10_sizeOf l D fu S b5 x3 _ g9) (fun H locs hV => ?_)
      refine lv_iadd hx hb dX10_room_59 ?_
      refine h_istore_n (tl' := [(2, .inl (t0 + r3)), (4, .inl t0), (0, .inr (some a0)), (1, .inl x1), (3, .inl x3)]) hx hb dX10_room_60 rfl hl (by decide) rfl (fun ls hl => ?_)
      refine lv_goto (tgt := 2) hx hb dX10_room_61 (by decide) ?_
      exact hk2 S4 a0 x1 (t0 + r3) _ _ _ h10 hV (hl_sub hl [2, 3, 0] rfl)
    · rw [if_pos c2] at h
      refine lv_iconst (v := -1) hx hb dX10_room_50 (by decide) ?_
      exact h_iret hx hb hr hlk hV h (Nat.le_of_ble_eq_true rfl) (Nat.le_of_ble_eq_true rfl) dX10_room_51
  · rw [if_neg c1] at h
    refine lv_iload_n hx hb dX10_room_43 rfl (hi_at hl 3 rfl) ?_
    exact h_iret hx hb hr hlk hV h (Nat.le_of_ble_eq_true rfl) (Nat.le_of_ble_eq_true rfl) dX10_room_44
def fX10_room_2 (fu : Nat) : Nat → hS → Nat → Int32 → Int32 → Option (Int32 × hS)
  | 0, _, _, _, _ => none
  | n + 1, S, a0, x1, x2 => (gI S 9 0 (some a0)).bind fun v1 => if v1 ≤ x2 then (some ((-1 : Int32), S)) else ((rcv S 9 (some a0)).bind fun b7 =>
bn2 (fX10_nextFrom fu S b7 x2) fun r5 S6 =>
if r5 = (-1 : Int32) then ((gI S6 9 0 (some a0)).bind fun v22 =>
fX10_room_33 fu (fX10_room_2 fu n) S6 a0 x1 x2 r5 v22) else ((rcv S6 9 (some a0)).bind fun b16 =>
bn2 (fX10_beginOf fu S6 b16 r5) fun r14 S15 =>
fX10_room_33 fu (fX10_room_2 fu n) S15 a0 x1 x2 r5 r14))
set_option maxHeartbeats 4000000 in
set_option maxRecDepth 100000 in
theorem kX10_room_2 {p : Program} {l : Launch} {e : Env} {s : State} {m : MethodId} {args : Array Value} {below : List Frame} {meth : Method} {c : Code} {D : hD} {S0 : hS} {z : Int32 × hS} (C : hCx p m c cX10_room 5 s args RX10 meth (some .int) D) (fu : Nat) : ∀ (n : Nat) (S : hS) (a0 : Nat) (x1 : Int32) (x2 : Int32) (H : Heap) (locs : List Loc) (ls : Array Slot), fX10_room_2 fu n S a0 x1 x2 = some z → h_V D (h_A S0) s S H locs → hl_has ls 5 [(0, .inr (some a0)), (1, .inl x1), (2, .inl x2)] → W p l e { frames := 2, cells := 0, slots := 0, locals := 45 } s m args below meth c H locs 0 0 (MQ below (h_Q D (h_A S0) (some (.int z.1)) z.2) args s 0 0 (h_A S0)) (F0 m 2 ls []) := by
  obtain ⟨-, hx, hb, hml, hown, hr, hlk, hK, hts⟩ := id C
  intro n
  induction n with
  | zero =>
    intro S a0 x1 x2 _ _ _ h hV hl
    rw [fX10_room_2] at h
    cases h
  | succ n ih =>
    intro S a0 x1 x2 _ _ _ h hV hl
    rw [fX10_room_2] at h
    refine lv_iload_n hx hb dX10_room_2 rfl (hi_at hl 2 rfl) ?_
    refine hr_aload_n hx hb dX10_room_3 rfl (hr_at hl 0 rfl) ?_
    obtain ⟨v1, g2, h3⟩ := hbind h; clear h
    refine h_gI hx hb hown hV g2 (flRX10_59 hts hK) dX10_room_4 ?_
    refine lv_icmp_ge (tgt := 64) hx hb dX10_room_7 (by decide) (fun c4 => ?_) (fun c4 => ?_)
    · rw [if_pos c4] at h3
      refine lv_iconst (v := -1) hx hb dX10_room_64 (by decide) ?_
      exact h_iret hx hb hr hlk hV h3 (Nat.le_of_ble_eq_true rfl) (Nat.le_of_ble_eq_true rfl) dX10_room_65
    · rw [if_neg c4] at h3
      refine hr_aload_n hx hb dX10_room_10 rfl (hr_at hl 0 rfl) ?_
      refine lv_iload_n hx hb dX10_room_11 rfl (hi_at hl 2 rfl) ?_
      obtain ⟨b7, g8, h9⟩ := hbind h3; clear h3
      obtain ⟨_, _, e10, q10⟩ := rcv_inv g8
      obtain ⟨r5, S6, g11, h12⟩ := hbn2 h9; clear h9
      refine h_callV (n := 1) (As := [.int x2]) (rest := []) (st1 := [.int r5]) (fr := 1) (lo := 21) (mc := 0) (ms := 0) C.1 hK hV q10 rfl rfl wd819 wd816 wd818 wd46 wd83 ⟨by decide, by decide, by decide⟩ ⟨(Nat.le_of_ble_eq_true rfl), (Nat.le_of_ble_eq_true rfl)⟩ rfl hl.1 (hW_ok [] (Nat.le_of_ble_eq_true rfl)) dX10_room_12 ⟨(Nat.le_of_ble_eq_true rfl), (Nat.le_of_ble_eq_true rfl)⟩ rfl (by rw [e10]; rfl) (mX10_nextFrom l D fu S b7 x2 _ g11) (fun H locs hV => ?_)
      refine h_istore_n (tl' := [(3, .inl r5), (0, .inr (some a0)), (1, .inl x1), (2, .inl x2)]) hx hb dX10_room_15 rfl hl (by decide) rfl (fun ls hl => ?_)
      refine lv_iload_n hx hb dX10_room_16 rfl (hi_at hl 0 rfl) ?_
      refine lv_iconst (v := -1) hx hb dX10_room_17 (by decide) ?_
      refine lv_icmp_ne (tgt := 28) hx hb dX10_room_18 (by decide) (fun c13 => ?_) (fun c13 => ?_)
      · rw [if_neg c13] at h12
        refine hr_aload_n hx hb dX10_room_28 rfl (hr_at hl 1 rfl) ?_
        refine lv_iload_n hx hb dX10_room_29 rfl (hi_at hl 0 rfl) ?_
        obtain ⟨b16, g17, h18⟩ := hbind h12; clear h12
        obtain ⟨_, _, e19, q19⟩ := rcv_inv g17
        obtain ⟨r14, S15, g20, h21⟩ := hbn2 h18; clear h18
        refine h_callV (n := 1) (As := [.int r5]) (rest := []) (st1 := [.int r14]) (fr := 0) (lo := 0) (mc := 0) (ms := 0) C.1 hK hV q19 rfl rfl wd823 wd820 wd822 wd47 wd83 ⟨by decide, by decide, by decide⟩ ⟨(Nat.le_of_ble_eq_true rfl), (Nat.le_of_ble_eq_true rfl)⟩ rfl hl.1 (hW_ok [] (Nat.le_of_ble_eq_true rfl)) dX10_room_30 ⟨(Nat.le_of_ble_eq_true rfl), (Nat.le_of_ble_eq_true rfl)⟩ rfl (by rw [e19]; rfl) (mX10_beginOf l D fu S6 b16 r5 _ g20) (fun H locs hV => ?_)
        exact kX10_room_33 C fu (fX10_room_2 fu n) ih S15 a0 x1 x2 r5 r14 _ _ _ h21 hV (hl_sub hl [1, 2, 3, 0] rfl)
      · rw [if_pos c13] at h12
        refine hr_aload_n hx hb dX10_room_21 rfl (hr_at hl 1 rfl) ?_
        obtain ⟨v22, g23, h24⟩ := hbind h12; clear h12
        refine h_gI hx hb hown hV g23 (flRX10_59 hts hK) dX10_room_22 ?_
        refine lv_goto (tgt := 33) hx hb dX10_room_25 (by decide) ?_
        exact kX10_room_33 C fu (fX10_room_2 fu n) ih S6 a0 x1 x2 r5 v22 _ _ _ h24 hV (hl_sub hl [1, 2, 3, 0] rfl)
def fX10_room (fu : Nat) (S : hS) (a0 : Nat) (x1 : Int32) : Option (Int32 × hS) := fX10_room_2 fu fu S a0 x1 (0 : Int32)
set_option maxHeartbeats 4000000 in
set_option maxRecDepth 100000 in
theorem mX10_room (l : Launch) (D : hD) (fu : Nat) (S : hS) (a0 : Nat) (x1 : Int32) (z : Int32 × hS) (h : fX10_room fu S a0 x1 = some z) : hM l D yX10_room cX10_room 5 (some .int) 2 45 0 0 [va_rf (some a0), .int x1] S (some (.int z.1)) z.2 := by
  refine h_body [.inr (some a0), .inl x1] RX10 (by decide) rfl (Nat.le_of_ble_eq_true rfl) ?_
  intro p e s m args below meth c C hin ls hV hl
  obtain ⟨-, hx, hb, hml, hown, hr, hlk, hK, hts⟩ := id C
  unfold fX10_room at h
  refine lv_iconst (v := 0) hx hb dX10_room_0 (by decide) ?_
  refine h_istore_n (tl' := [(2, .inl (0 : Int32)), (0, .inr (some a0)), (1, .inl x1)]) hx hb dX10_room_1 rfl hl (by decide) rfl (fun ls hl => ?_)
  exact kX10_room_2 C fu fu S a0 x1 (0 : Int32) _ _ _ h hV (hl_sub hl [1, 2, 0] rfl)
def fX10_gaps_98 (fu : Nat) (k10 : hS → Nat → Int32 → Int32 → Int32 → Int32 → Int32 → Option (Int32 × hS)) (S : hS) (a0 : Nat) (x1 : Int32) (x2 : Int32) (x3 : Int32) (x4 : Int32) (t0 : Int32) : Option (Int32 × hS) := k10 S a0 x1 x2 x3 x4 t0
set_option maxHeartbeats 4000000 in
set_option maxRecDepth 100000 in
theorem kX10_gaps_98 {p : Program} {l : Launch} {e : Env} {s : State} {m : MethodId} {args : Array Value} {below : List Frame} {meth : Method} {c : Code} {D : hD} {S0 : hS} {z : Int32 × hS} (C : hCx p m c cX10_gaps 8 s args RX10 meth (some .int) D) (fu : Nat) (k10 : hS → Nat → Int32 → Int32 → Int32 → Int32 → Int32 → Option (Int32 × hS)) (hk10 : ∀ (S : hS) (a0 : Nat) (x1 : Int32) (x2 : Int32) (x3 : Int32) (x4 : Int32) (x5 : Int32) (H : Heap) (locs : List Loc) (ls : Array Slot), k10 S a0 x1 x2 x3 x4 x5 = some z → h_V D (h_A S0) s S H locs → hl_has ls 8 [(0, .inr (some a0)), (1, .inl x1), (2, .inl x2), (3, .inl x3), (4, .inl x4), (5, .inl x5)] → W p l e { frames := 2, cells := 0, slots := 0, locals := 45 } s m args below meth c H locs 0 0 (MQ below (h_Q D (h_A S0) (some (.int z.1)) z.2) args s 0 0 (h_A S0)) (F0 m 10 ls [])) : ∀ (S : hS) (a0 : Nat) (x1 : Int32) (x2 : Int32) (x3 : Int32) (x4 : Int32) (t0 : Int32) (H : Heap) (locs : List Loc) (ls : Array Slot), fX10_gaps_98 fu k10 S a0 x1 x2 x3 x4 t0 = some z → h_V D (h_A S0) s S H locs → hl_has ls 8 [(0, .inr (some a0)), (1, .inl x1), (2, .inl x2), (3, .inl x3), (4, .inl x4)] → W p l e { frames := 2, cells := 0, slots := 0, locals := 45 } s m args below meth c H locs 0 0 (MQ below (h_Q D (h_A S0) (some (.int z.1)) z.2) args s 0 0 (h_A S0)) (F0 m 98 ls [.int t0]) := by
  obtain ⟨-, hx, hb, hml, hown, hr, hlk, hK, hts⟩ := id C
  intro S a0 x1 x2 x3 x4 t0 _ _ _ h hV hl
  unfold fX10_gaps_98 at h
  refine h_istore (tl' := [(5, .inl t0), (0, .inr (some a0)), (1, .inl x1), (2, .inl x2), (3, .inl x3), (4, .inl x4)]) hx hb dX10_gaps_98 hl (by decide) rfl (fun ls hl => ?_)
  refine lv_goto (tgt := 10) hx hb dX10_gaps_100 (by decide) ?_
  exact hk10 S a0 x1 x2 x3 x4 t0 _ _ _ h hV (hl_sub hl [1, 2, 3, 4, 5, 0] rfl)
def fX10_gaps_76 (fu : Nat) (k10 : hS → Nat → Int32 → Int32 → Int32 → Int32 → Int32 → Option (Int32 × hS)) (S : hS) (a0 : Nat) (x1 : Int32) (x2 : Int32) (x3 : Int32) (x4 : Int32) (x6 : Int32) (x7 : Int32) : Option (Int32 × hS) := if x6 = (-1 : Int32) then ((gI S 9 0 (some a0)).bind fun v10 =>
fX10_gaps_98 fu k10 S a0 x1 x2 x3 x4 v10) else ((rcv S 9 (some a0)).bind fun b4 =>
bn2 (fX10_sizeOf fu S b4 x6) fun r2 S3 =>
fX10_gaps_98 fu k10 S3 a0 x1 x2 x3 x4 (x7 + r2))
set_option maxHeartbeats 4000000 in
set_option maxRecDepth 100000 in
theorem kX10_gaps_76 {p : Program} {l : Launch} {e : Env} {s : State} {m : MethodId} {args : Array Value} {below : List Frame} {meth : Method} {c : Code} {D : hD} {S0 : hS} {z : Int32 × hS} (C : hCx p m c cX10_gaps 8 s args RX10 meth (some .int) D) (fu : Nat) (k10 : hS → Nat → Int32 → Int32 → Int32 → Int32 → Int32 → Option (Int32 × hS)) (hk10 : ∀ (S : hS) (a0 : Nat) (x1 : Int32) (x2 : Int32) (x3 : Int32) (x4 : Int32) (x5 : Int32) (H : Heap) (locs : List Loc) (ls : Array Slot), k10 S a0 x1 x2 x3 x4 x5 = some z → h_V D (h_A S0) s S H locs → hl_has ls 8 [(0, .inr (some a0)), (1, .inl x1), (2, .inl x2), (3, .inl x3), (4, .inl x4), (5, .inl x5)] → W p l e { frames := 2, cells := 0, slots := 0, locals := 45 } s m args below meth c H locs 0 0 (MQ below (h_Q D (h_A S0) (some (.int z.1)) z.2) args s 0 0 (h_A S0)) (F0 m 10 ls [])) : ∀ (S : hS) (a0 : Nat) (x1 : Int32) (x2 : Int32) (x3 : Int32) (x4 : Int32) (x6 : Int32) (x7 : Int32) (H : Heap) (locs : List Loc) (ls : Array Slot), fX10_gaps_76 fu k10 S a0 x1 x2 x3 x4 x6 x7 = some z → h_V D (h_A S0) s S H locs → hl_has ls 8 [(0, .inr (some a0)), (1, .inl x1), (2, .inl x2), (3, .inl x3), (4, .inl x4), (6, .inl x6), (7, .inl x7)] → W p l e { frames := 2, cells := 0, slots := 0, locals := 45 } s m args below meth c H locs 0 0 (MQ below (h_Q D (h_A S0) (some (.int z.1)) z.2) args s 0 0 (h_A S0)) (F0 m 76 ls []) := by
  obtain ⟨-, hx, hb, hml, hown, hr, hlk, hK, hts⟩ := id C
  intro S a0 x1 x2 x3 x4 x6 x7 _ _ _ h hV hl
  unfold fX10_gaps_76 at h
  refine lv_iload hx hb dX10_gaps_76 (hi_at hl 5 rfl) ?_
  refine lv_iconst (v := -1) hx hb dX10_gaps_78 (by decide) ?_
  refine lv_icmp_ne (tgt := 89) hx hb dX10_gaps_79 (by decide) (fun c1 => ?_) (fun c1 => ?_)
  · rw [if_neg c1] at h
    refine lv_iload hx hb dX10_gaps_89 (hi_at hl 6 rfl) ?_
    refine hr_aload_n hx hb dX10_gaps_91 rfl (hr_at hl 0 rfl) ?_
    refine lv_iload hx hb dX10_gaps_92 (hi_at hl 5 rfl) ?_
    obtain ⟨b4, g5, h6⟩ := hbind h; clear h
    obtain ⟨_, _, e7, q7⟩ := rcv_inv g5
    obtain ⟨r2, S3, g8, h9⟩ := hbn2 h6; clear h6
    refine h_callV (n := 1) (As := [.int x6]) (rest := [.int x7]) (st1 := [.int r2, .int x7]) (fr := 1) (lo := 21) (mc := 0) (ms := 0) C.1 hK hV q7 rfl rfl wd827 wd824 wd826 wd48 wd83 ⟨by decide, by decide, by decide⟩ ⟨(Nat.le_of_ble_eq_true rfl), (Nat.le_of_ble_eq_true rfl)⟩ rfl hl.1 (hW_ok [.inl x7] (Nat.le_of_ble_eq_true rfl)) dX10_gaps_94 ⟨(Nat.le_of_ble_eq_true rfl), (Nat.le_of_ble_eq_true rfl)⟩ rfl (by rw [e7]; rfl) (mX10_sizeOf l D fu S b4 x6 _ g8) (fun H locs hV => ?_)
    refine lv_iadd hx hb dX10_gaps_97 ?_
    exact kX10_gaps_98 C fu k10 hk10 S3 a0 x1 x2 x3 x4 (x7 + r2) _ _ _ h9 hV (hl_sub hl [0, 1, 2, 3, 4] rfl)
  · rw [if_pos c1] at h
    refine hr_aload_n hx hb dX10_gaps_82 rfl (hr_at hl 0 rfl) ?_
    obtain ⟨v10, g11, h12⟩ := hbind h; clear h
    refine h_gI hx hb hown hV g11 (flRX10_59 hts hK) dX10_gaps_83 ?_
    refine lv_goto (tgt := 98) hx hb dX10_gaps_86 (by decide) ?_
    exact kX10_gaps_98 C fu k10 hk10 S a0 x1 x2 x3 x4 v10 _ _ _ h12 hV (hl_sub hl [0, 1, 2, 3, 4] rfl)
def fX10_gaps_46 (fu : Nat) (k10 : hS → Nat → Int32 → Int32 → Int32 → Int32 → Int32 → Option (Int32 × hS)) (S : hS) (a0 : Nat) (x1 : Int32) (x2 : Int32) (x3 : Int32) (x4 : Int32) (x5 : Int32) (x6 : Int32) (t0 : Int32) : Option (Int32 × hS) := if t0 ≤ x5 then (fX10_gaps_76 fu k10 S a0 x1 x2 x3 x4 x6 t0) else (fX10_gaps_76 fu k10 S a0 x1 (x2 + (t0 - x5)) (imx x3 (t0 - x5)) (x4 + (1 : Int32)) x6 t0)
set_option maxHeartbeats 4000000 in
set_option maxRecDepth 100000 in
theorem kX10_gaps_46 {p : Program} {l : Launch} {e : Env} {s : State} {m : MethodId} {args : Array Value} {below : List Frame} {meth : Method} {c : Code} {D : hD} {S0 : hS} {z : Int32 × hS} (C : hCx p m c cX10_gaps 8 s args RX10 meth (some .int) D) (fu : Nat) (k10 : hS → Nat → Int32 → Int32 → Int32 → Int32 → Int32 → Option (Int32 × hS)) (hk10 : ∀ (S : hS) (a0 : Nat) (x1 : Int32) (x2 : Int32) (x3 : Int32) (x4 : Int32) (x5 : Int32) (H : Heap) (locs : List Loc) (ls : Array Slot), k10 S a0 x1 x2 x3 x4 x5 = some z → h_V D (h_A S0) s S H locs → hl_has ls 8 [(0, .inr (some a0)), (1, .inl x1), (2, .inl x2), (3, .inl x3), (4, .inl x4), (5, .inl x5)] → W p l e { frames := 2, cells := 0, slots := 0, locals := 45 } s m args below meth c H locs 0 0 (MQ below (h_Q D (h_A S0) (some (.int z.1)) z.2) args s 0 0 (h_A S0)) (F0 m 10 ls [])) : ∀ (S : hS) (a0 : Nat) (x1 : Int32) (x2 : Int32) (x3 : Int32) (x4 : Int32) (x5 : Int32) (x6 : Int32) (t0 : Int32) (H : Heap) (locs : List Loc) (ls : Array Slot), fX10_gaps_46 fu k10 S a0 x1 x2 x3 x4 x5 x6 t0 = some z → h_V D (h_A S0) s S H locs → hl_has ls 8 [(0, .inr (some a0)), (1, .inl x1), (2, .inl x2), (3, .inl x3), (4, .inl x4), (5, .inl x5), (6, .inl x6)] → W p l e { frames := 2, cells := 0, slots := 0, locals := 45 } s m args below meth c H locs 0 0 (MQ below (h_Q D (h_A S0) (some (.int z.1)) z.2) args s 0 0 (h_A S0)) (F0 m 46 ls [.int t0]) := by
  obtain ⟨-, hx, hb, hml, hown, hr, hlk, hK, hts⟩ := id C
  intro S a0 x1 x2 x3 x4 x5 x6 t0 _ _ _ h hV hl
  unfold fX10_gaps_46 at h
  refine h_istore (tl' := [(7, .inl t0), (0, .inr (some a0)), (1, .inl x1), (2, .inl x2), (3, .inl x3), (4, .inl x4), (5, .inl x5), (6, .inl x6)]) hx hb dX10_gaps_46 hl (by decide) rfl (fun ls hl => ?_)
  refine lv_iload hx hb dX10_gaps_48 (hi_at hl 0 rfl) ?_
  refine lv_iload hx hb dX10_gaps_50 (hi_at hl 6 rfl) ?_
  refine lv_icmp_le (tgt := 76) hx hb dX10_gaps_52 (by decide) (fun c1 => ?_) (fun c1 => ?_)
  · rw [if_pos c1] at h
    exact kX10_gaps_76 C fu k10 hk10 S a0 x1 x2 x3 x4 x6 t0 _ _ _ h hV (hl_sub hl [1, 2, 3, 4, 5, 7, 0] rfl)
  · rw [if_neg c1] at h
    refine lv_iload_n hx hb dX10_gaps_55 rfl (hi_at hl 3 rfl) ?_
    refine lv_iload hx hb dX10_gaps_56 (hi_at hl 0 rfl) ?_
    refine lv_iload hx hb dX10_gaps_58 (hi_at hl 6 rfl) ?_
    refine lv_isub hx hb dX10_gaps_60 ?_
    refine lv_iadd hx hb dX10_gaps_61 ?_
    refine h_istore_n (tl' := [(2, .inl (x2 + (t0 - x5))), (7, .inl t0), (0, .inr (some a0)), (1, .inl x1), (3, .inl x3), (4, .inl x4), (5, .inl x5), (6, .inl x6)]) hx hb dX10_gaps_62 rfl hl (by decide) rfl (fun ls hl => ?_)
    refine lv_iload_n hx hb dX10_gaps_63 rfl (hi_at hl 4 rfl) ?_
    refine lv_iload hx hb dX10_gaps_64 (hi_at hl 1 rfl) ?_
    refine lv_iload hx hb dX10_gaps_66 (hi_at hl 6 rfl) ?_
    refine lv_isub hx hb dX10_gaps_68 ?_
    refine h_mmax hx hb (hml.trans hl.1.symm) hown hts wd701 wd108 wd80 wd109 (Nat.le_of_ble_eq_true rfl) (hW_okL [] (Nat.le_of_ble_eq_true rfl)) (Nat.le_of_ble_eq_true rfl) (Nat.le_of_ble_eq_true rfl) dX10_gaps_69 ?_
    refine h_istore_n (tl' := [(3, .inl (imx x3 (t0 - x5))), (2, .inl (x2 + (t0 - x5))), (7, .inl t0), (0, .inr (some a0)), (1, .inl x1), (4, .inl x4), (5, .inl x5), (6, .inl x6)]) hx hb dX10_gaps_72 rfl hl (by decide) rfl (fun ls hl => ?_)
    refine h_iinc (v := (x4 + (1 : Int32))) (tl' := [(4, .inl (x4 + (1 : Int32))), (3, .inl (imx x3 (t0 - x5))), (2, .inl (x2 + (t0 - x5))), (7, .inl t0), (0, .inr (some a0)), (1, .inl x1), (5, .inl x5), (6, .inl x6)]) hx hb dX10_gaps_73 hl (k := 5) rfl rfl (by decide) rfl (fun ls hl => ?_)
    exact kX10_gaps_76 C fu k10 hk10 S a0 x1 (x2 + (t0 - x5)) (imx x3 (t0 - x5)) (x4 + (1 : Int32)) x6 t0 _ _ _ h hV (hl_sub hl [4, 5, 2, 1, 0, 7, 3] rfl)
def fX10_gaps_10 (fu : Nat) : Nat → hS → Nat → Int32 → Int32 → Int32 → Int32 → Int32 → Option (Int32 × hS)
  | 0, _, _, _, _, _, _, _ => none
  | n + 1, S, a0, x1, x2, x3, x4, x5 => (gI S 9 0 (some a0)).bind fun v1 => if v1 ≤ x5 then (if x1 = 0 then (some (x2, S)) else (if x1 = (1 : Int32) then (some (x3, S)) else (some (x4, S)))) else ((rcv S 9 (some a0)).bind fun b9 =>
bn2 (fX10_nextFrom fu S b9 x5) fun r7 S8 =>
if r7 = (-1 : Int32) then ((gI S8 9 0 (some a0)).bind fun v24 =>
fX10_gaps_46 fu (fX10_gaps_10 fu n) S8 a0 x1 x2 x3 x4 x5 r7 v24) else ((rcv S8 9 (some a0)).bind fun b18 =>
bn2 (fX10_beginOf fu S8 b18 r7) fun r16 S17 =>
fX10_gaps_46 fu (fX10_gaps_10 fu n) S17 a0 x1 x2 x3 x4 x5 r7 r16))
set_option maxHeartbeats 4000000 in
set_option maxRecDepth 100000 in
theorem kX10_gaps_10 {p : Program} {l : Launch} {e : Env} {s : State} {m : MethodId} {args : Array Value} {below : List Frame} {meth : Method} {c : Code} {D : hD} {S0 : hS} {z : Int32 × hS} (C : hCx p m c cX10_gaps 8 s args RX10 meth (some .int) D) (fu : Nat) : ∀ (n : Nat) (S : hS) (a0 : Nat) (x1 : Int32) (x2 : Int32) (x3 : Int32) (x4 : Int32) (x5 : Int32) (H : Heap) (locs : List Loc) (ls : Array Slot), fX10_gaps_10 fu n S a0 x1 x2 x3 x4 x5 = some z → h_V D (h_A S0) s S H locs → hl_has ls 8 [(0, .inr (some a0)), (1, .inl x1), (2, .inl x2), (3, .inl x3), (4, .inl x4), (5, .inl x5)] → W p l e { frames := 2, cells := 0, slots := 0, locals := 45 } s m args below meth c H locs 0 0 (MQ below (h_Q D (h_A S0) (some (.int z.1)) z.2) args s 0 0 (h_A S0)) (F0 m 10 ls []) := by
  obtain ⟨-, hx, hb, hml, hown, hr, hlk, hK, hts⟩ := id C
  intro n
  induction n with
  | zero =>
    intro S a0 x1 x2 x3 x4 x5 _ _ _ h hV hl
    rw [fX10_gaps_10] at h
    cases h
  | succ n ih =>
    intro S a0 x1 x2 x3 x4 x5 _ _ _ h hV hl
    rw [fX10_gaps_10] at h
    refine lv_iload hx hb dX10_gaps_10 (hi_at hl 5 rfl) ?_
    refine hr_aload_n hx hb dX10_gaps_12 rfl (hr_at hl 0 rfl) ?_
    obtain ⟨v1, g2, h3⟩ := hbind h; clear h
    refine h_gI hx hb hown hV g2 (flRX10_59 hts hK) dX10_gaps_13 ?_
    refine lv_icmp_ge (tgt := 103) hx hb dX10_gaps_16 (by decide) (fun c4 => ?_) (fun c4 => ?_)
    · rw [if_pos c4] at h3
      refine lv_iload_n hx hb dX10_gaps_103 rfl (hi_at hl 1 rfl) ?_
      refine lv_if_ne (tgt := 111) hx hb dX10_gaps_104 (by decide) (fun c5 => ?_) (fun c5 => ?_)
      · rw [if_neg c5] at h3
        refine lv_iload_n hx hb dX10_gaps_111 rfl (hi_at hl 1 rfl) ?_
        refine lv_iconst (v := 1) hx hb dX10_gaps_112 (by decide) ?_
        refine lv_icmp_ne (tgt := 120) hx hb dX10_gaps_113 (by decide) (fun c6 => ?_) (fun c6 => ?_)
        · rw [if_neg c6] at h3
          refine lv_iload hx hb dX10_gaps_120 (hi_at hl 4 rfl) ?_
          exact h_iret hx hb hr hlk hV h3 (Nat.le_of_ble_eq_true rfl) (Nat.le_of_ble_eq_true rfl) dX10_gaps_122
        · rw [if_pos c6] at h3
          refine lv_iload_n hx hb dX10_gaps_116 rfl (hi_at hl 3 rfl) ?_
          refine lv_goto (tgt := 122) hx hb dX10_gaps_117 (by decide) ?_
          exact h_iret hx hb hr hlk hV h3 (Nat.le_of_ble_eq_true rfl) (Nat.le_of_ble_eq_true rfl) dX10_gaps_122
      · rw [if_pos c5] at h3
        refine lv_iload_n hx hb dX10_gaps_107 rfl (hi_at hl 2 rfl) ?_
        refine lv_goto (tgt := 122) hx hb dX10_gaps_108 (by decide) ?_
        exact h_iret hx hb hr hlk hV h3 (Nat.le_of_ble_eq_true rfl) (Nat.le_of_ble_eq_true rfl) dX10_gaps_122
    · rw [if_neg c4] at h3
      refine hr_aload_n hx hb dX10_gaps_19 rfl (hr_at hl 0 rfl) ?_
      refine lv_iload hx hb dX10_gaps_20 (hi_at hl 5 rfl) ?_
      obtain ⟨b9, g10, h11⟩ := hbind h3; clear h3
      obtain ⟨_, _, e12, q12⟩ := rcv_inv g10
      obtain ⟨r7, S8, g13, h14⟩ := hbn2 h11; clear h11
      refine h_callV (n := 1) (As := [.int x5]) (rest := []) (st1 := [.int r7]) (fr := 1) (lo := 21) (mc := 0) (ms := 0) C.1 hK hV q12 rfl rfl wd819 wd816 wd818 wd46 wd83 ⟨by decide, by decide, by decide⟩ ⟨(Nat.le_of_ble_eq_true rfl), (Nat.le_of_ble_eq_true rfl)⟩ rfl hl.1 (hW_ok [] (Nat.le_of_ble_eq_true rfl)) dX10_gaps_22 ⟨(Nat.le_of_ble_eq_true rfl), (Nat.le_of_ble_eq_true rfl)⟩ rfl (by rw [e12]; rfl) (mX10_nextFrom l D fu S b9 x5 _ g13) (fun H locs hV => ?_)
      refine h_istore (tl' := [(6, .inl r7), (0, .inr (some a0)), (1, .inl x1), (2, .inl x2), (3, .inl x3), (4, .inl x4), (5, .inl x5)]) hx hb dX10_gaps_25 hl (by decide) rfl (fun ls hl => ?_)
      refine lv_iload hx hb dX10_gaps_27 (hi_at hl 0 rfl) ?_
      refine lv_iconst (v := -1) hx hb dX10_gaps_29 (by decide) ?_
      refine lv_icmp_ne (tgt := 40) hx hb dX10_gaps_30 (by decide) (fun c15 => ?_) (fun c15 => ?_)
      · rw [if_neg c15] at h14
        refine hr_aload_n hx hb dX10_gaps_40 rfl (hr_at hl 1 rfl) ?_
        refine lv_iload hx hb dX10_gaps_41 (hi_at hl 0 rfl) ?_
        obtain ⟨b18, g19, h20⟩ := hbind h14; clear h14
        obtain ⟨_, _, e21, q21⟩ := rcv_inv g19
        obtain ⟨r16, S17, g22, h23⟩ := hbn2 h20; clear h20
        refine h_callV (n := 1) (As := [.int r7]) (rest := []) (st1 := [.int r16]) (fr := 0) (lo := 0) (mc := 0) (ms := 0) C.1 hK hV q21 rfl rfl wd823 wd820 wd822 wd47 wd83 ⟨by decide, by decide, by decide⟩ ⟨(Nat.le_of_ble_eq_true rfl), (Nat.le_of_ble_eq_true rfl)⟩ rfl hl.1 (hW_ok [] (Nat.le_of_ble_eq_true rfl)) dX10_gaps_43 ⟨(Nat.le_of_ble_eq_true rfl), (Nat.le_of_ble_eq_true rfl)⟩ rfl (by rw [e21]; rfl) (mX10_beginOf l D fu S8 b18 r7 _ g22) (fun H locs hV => ?_)
        exact kX10_gaps_46 C fu (fX10_gaps_10 fu n) ih S17 a0 x1 x2 x3 x4 x5 r7 r16 _ _ _ h23 hV (hl_sub hl [1, 2, 3, 4, 5, 6, 0] rfl)
      · rw [if_pos c15] at h14
        refine hr_aload_n hx hb dX10_gaps_33 rfl (hr_at hl 1 rfl) ?_
        obtain ⟨v24, g25, h26⟩ := hbind h14; clear h14
        refine h_gI hx hb hown hV g25 (flRX10_59 hts hK) dX10_gaps_34 ?_
        refine lv_goto (tgt := 46) hx hb dX10_gaps_37 (by decide) ?_
        exact kX10_gaps_46 C fu (fX10_gaps_10 fu n) ih S8 a0 x1 x2 x3 x4 x5 r7 v24 _ _ _ h26 hV (hl_sub hl [1, 2, 3, 4, 5, 6, 0] rfl)
def fX10_gaps (fu : Nat) (S : hS) (a0 : Nat) (x1 : Int32) : Option (Int32 × hS) := fX10_gaps_10 fu fu S a0 x1 (0 : Int32) (0 : Int32) (0 : Int32) (0 : Int32)
set_option maxHeartbeats 4000000 in
set_option maxRecDepth 100000 in
theorem mX10_gaps (l : Launch) (D : hD) (fu : Nat) (S : hS) (a0 : Nat) (x1 : Int32) (z : Int32 × hS) (h : fX10_gaps fu S a0 x1 = some z) : hM l D yX10_gaps cX10_gaps 8 (some .int) 2 45 0 0 [va_rf (some a0), .int x1] S (some (.int z.1)) z.2 := by
  refine h_body [.inr (some a0), .inl x1] RX10 (by decide) rfl (Nat.le_of_ble_eq_true rfl) ?_
  intro p e s m args below meth c C hin ls hV hl
  obtain ⟨-, hx, hb, hml, hown, hr, hlk, hK, hts⟩ := id C
  unfold fX10_gaps at h
  refine lv_iconst (v := 0) hx hb dX10_gaps_0 (by decide) ?_
  refine h_istore_n (tl' := [(2, .inl (0 : Int32)), (0, .inr (some a0)), (1, .inl x1)]) hx hb dX10_gaps_1 rfl hl (by decide) rfl (fun ls hl => ?_)
  refine lv_iconst (v := 0) hx hb dX10_gaps_2 (by decide) ?_
  refine h_istore_n (tl' := [(3, .inl (0 : Int32)), (2, .inl (0 : Int32)), (0, .inr (some a0)), (1, .inl x1)]) hx hb dX10_gaps_3 rfl hl (by decide) rfl (fun ls hl => ?_)
  refine lv_iconst (v := 0) hx hb dX10_gaps_4 (by decide) ?_
  refine h_istore (tl' := [(4, .inl (0 : Int32)), (3, .inl (0 : Int32)), (2, .inl (0 : Int32)), (0, .inr (some a0)), (1, .inl x1)]) hx hb dX10_gaps_5 hl (by decide) rfl (fun ls hl => ?_)
  refine lv_iconst (v := 0) hx hb dX10_gaps_7 (by decide) ?_
  refine h_istore (tl' := [(5, .inl (0 : Int32)), (4, .inl (0 : Int32)), (3, .inl (0 : Int32)), (2, .inl (0 : Int32)), (0, .inr (some a0)), (1, .inl x1)]) hx hb dX10_gaps_8 hl (by decide) rfl (fun ls hl => ?_)
  exact kX10_gaps_10 C fu fu S a0 x1 (0 : Int32) (0 : Int32) (0 : Int32) (0 : Int32) _ _ _ h hV (hl_sub hl [4, 5, 3, 2, 1, 0] rfl)
def fX10_takes_52 (fu : Nat) (S : hS) (a0 : Nat) (x1 : Int32) (x2 : Int32) : Option (Int32 × hS) := if x2 = 0 then ((rcv S 9 (some a0)).bind fun b4 =>
bn2 (fX10_bufferSize fu S b4 x1) fun r2 S3 =>
if r2 = 0 then ((zz (1 : Int32)).bind (fun v => some (v, S3))) else ((rcv S3 9 (some a0)).bind fun b13 =>
bn2 (fX10_bufferSize fu S3 b13 x1) fun r11 S12 =>
(rcv S12 9 (some a0)).bind fun b21 =>
bn2 (fX10_room fu S12 b21 r11) fun r19 S20 =>
if r19 = (-1 : Int32) then ((gR S20 9 9 (some a0)).bind fun v34 =>
(sV S20 10 v34 x1 (.int (-1 : Int32))).bind fun S37 =>
(zz (0 : Int32)).bind (fun v => some (v, S37))) else ((gR S20 9 10 (some a0)).bind fun v28 =>
(sV S20 10 v28 x1 (.int r19)).bind fun S31 =>
(zz (1 : Int32)).bind (fun v => some (v, S31))))) else ((zz (1 : Int32)).bind (fun v => some (v, S)))
set_option maxHeartbeats 4000000 in
set_option maxRecDepth 100000 in
theorem kX10_takes_52 {p : Program} {l : Launch} {e : Env} {s : State} {m : MethodId} {args : Array Value} {below : List Frame} {meth : Method} {c : Code} {D : hD} {S0 : hS} {z : Int32 × hS} (C : hCx p m c cX10_takes 4 s args RX10 meth (some .boolean) D) (fu : Nat) : ∀ (S : hS) (a0 : Nat) (x1 : Int32) (x2 : Int32) (H : Heap) (locs : List Loc) (ls : Array Slot), fX10_takes_52 fu S a0 x1 x2 = some z → h_V D (h_A S0) s S H locs → hl_has ls 4 [(0, .inr (some a0)), (1, .inl x1), (2, .inl x2)] → W p l e { frames := 3, cells := 0, slots := 0, locals := 69 } s m args below meth c H locs 0 0 (MQ below (h_Q D (h_A S0) (some (.int z.1)) z.2) args s 0 0 (h_A S0)) (F0 m 52 ls []) := by
  obtain ⟨-, hx, hb, hml, hown, hr, hlk, hK, hts⟩ := id C
  intro S a0 x1 x2 _ _ _ h hV hl
  unfold fX10_takes_52 at h
  refine lv_iload_n hx hb dX10_takes_52 rfl (hi_at hl 2 rfl) ?_
  refine lv_if_ne (tgt := 64) hx hb dX10_takes_53 (by decide) (fun c1 => ?_) (fun c1 => ?_)
  · rw [if_neg c1] at h
    refine lv_iconst (v := 1) hx hb dX10_takes_64 (by decide) ?_
    exact h_zret hx hb hr hlk hV h (Nat.le_of_ble_eq_true rfl) (Nat.le_of_ble_eq_true rfl) dX10_takes_65
  · rw [if_pos c1] at h
    refine hr_aload_n hx hb dX10_takes_56 rfl (hr_at hl 0 rfl) ?_
    refine lv_iload_n hx hb dX10_takes_57 rfl (hi_at hl 1 rfl) ?_
    obtain ⟨b4, g5, h6⟩ := hbind h; clear h
    obtain ⟨_, _, e7, q7⟩ := rcv_inv g5
    obtain ⟨r2, S3, g8, h9⟩ := hbn2 h6; clear h6
    refine h_callV (n := 1) (As := [.int x1]) (rest := []) (st1 := [.int r2]) (fr := 0) (lo := 0) (mc := 0) (ms := 0) C.1 hK hV q7 rfl rfl wd831 wd828 wd830 wd49 wd83 ⟨by decide, by decide, by decide⟩ ⟨(Nat.le_of_ble_eq_true rfl), (Nat.le_of_ble_eq_true rfl)⟩ rfl hl.1 (hW_ok [] (Nat.le_of_ble_eq_true rfl)) dX10_takes_58 ⟨(Nat.le_of_ble_eq_true rfl), (Nat.le_of_ble_eq_true rfl)⟩ rfl (by rw [e7]; rfl) (mX10_bufferSize l D fu S b4 x1 _ g8) (fun H locs hV => ?_)
    refine lv_if_ne (tgt := 66) hx hb dX10_takes_61 (by decide) (fun c10 => ?_) (fun c10 => ?_)
    · rw [if_neg c10] at h9
      refine hr_aload_n hx hb dX10_takes_66 rfl (hr_at hl 0 rfl) ?_
      refine hr_aload_n hx hb dX10_takes_67 rfl (hr_at hl 0 rfl) ?_
      refine lv_iload_n hx hb dX10_takes_68 rfl (hi_at hl 1 rfl) ?_
      obtain ⟨b13, g14, h15⟩ := hbind h9; clear h9
      obtain ⟨_, _, e16, q16⟩ := rcv_inv g14
      obtain ⟨r11, S12, g17, h18⟩ := hbn2 h15; clear h15
      refine h_callV (n := 1) (As := [.int x1]) (rest := [va_rf (some a0)]) (st1 := [.int r11, va_rf (some a0)]) (fr := 0) (lo := 0) (mc := 0) (ms := 0) C.1 hK hV q16 rfl rfl wd831 wd828 wd830 wd49 wd83 ⟨by decide, by decide, by decide⟩ ⟨(Nat.le_of_ble_eq_true rfl), (Nat.le_of_ble_eq_true rfl)⟩ rfl hl.1 (hW_ok [.inr (some a0)] (Nat.le_of_ble_eq_true rfl)) dX10_takes_69 ⟨(Nat.le_of_ble_eq_true rfl), (Nat.le_of_ble_eq_true rfl)⟩ rfl (by rw [e16]; rfl) (mX10_bufferSize l D fu S3 b13 x1 _ g17) (fun H locs hV => ?_)
      obtain ⟨b21, g22, h23⟩ := hbind h18; clear h18
      obtain ⟨_, _, e24, q24⟩ := rcv_inv g22
      obtain ⟨r19, S20, g25, h26⟩ := hbn2 h23; clear h23
      refine h_callV (n := 1) (As := [.int r11]) (rest := []) (st1 := [.int r19]) (fr := 2) (lo := 45) (mc := 0) (ms := 0) C.1 hK hV q24 rfl rfl wd815 wd812 wd814 wd45 wd83 ⟨by decide, by decide, by decide⟩ ⟨(Nat.le_of_ble_eq_true rfl), (Nat.le_of_ble_eq_true rfl)⟩ rfl hl.1 (hW_ok [] (Nat.le_of_ble_eq_true rfl)) dX10_takes_72 ⟨(Nat.le_of_ble_eq_true rfl), (Nat.le_of_ble_eq_true rfl)⟩ rfl (by rw [e24]; rfl) (mX10_room l D fu S12 b21 r11 _ g25) (fun H locs hV => ?_)
      refine h_istore_n (tl' := [(3, .inl r19), (0, .inr (some a0)), (1, .inl x1), (2, .inl x2)]) hx hb dX10_takes_75 rfl hl (by decide) rfl (fun ls hl => ?_)
      refine lv_iload_n hx hb dX10_takes_76 rfl (hi_at hl 0 rfl) ?_
      refine lv_iconst (v := -1) hx hb dX10_takes_77 (by decide) ?_
      refine lv_icmp_ne (tgt := 90) hx hb dX10_takes_78 (by decide) (fun c27 => ?_) (fun c27 => ?_)
      · rw [if_neg c27] at h26
        refine hr_aload_n hx hb dX10_takes_90 rfl (hr_at hl 1 rfl) ?_
        obtain ⟨v28, g29, h30⟩ := hbind h26; clear h26
        refine h_gR hx hb hown hV g29 (flRX10_28 hts hK) dX10_takes_91 ?_
        refine lv_iload_n hx hb dX10_takes_94 rfl (hi_at hl 2 rfl) ?_
        refine lv_iload_n hx hb dX10_takes_95 rfl (hi_at hl 0 rfl) ?_
        obtain ⟨S31, g32, h33⟩ := hbind h30; clear h30
        refine h_iast hx hb hK hV g32 dX10_takes_96 (fun H locs hV => ?_)
        refine lv_iconst (v := 1) hx hb dX10_takes_97 (by decide) ?_
        exact h_zret hx hb hr hlk hV h33 (Nat.le_of_ble_eq_true rfl) (Nat.le_of_ble_eq_true rfl) dX10_takes_98
      · rw [if_pos c27] at h26
        refine hr_aload_n hx hb dX10_takes_81 rfl (hr_at hl 1 rfl) ?_
        obtain ⟨v34, g35, h36⟩ := hbind h26; clear h26
        refine h_gR hx hb hown hV g35 (flRX10_25 hts hK) dX10_takes_82 ?_
        refine lv_iload_n hx hb dX10_takes_85 rfl (hi_at hl 2 rfl) ?_
        refine lv_iconst (v := -1) hx hb dX10_takes_86 (by decide) ?_
        obtain ⟨S37, g38, h39⟩ := hbind h36; clear h36
        refine h_iast hx hb hK hV g38 dX10_takes_87 (fun H locs hV => ?_)
        refine lv_iconst (v := 0) hx hb dX10_takes_88 (by decide) ?_
        exact h_zret hx hb hr hlk hV h39 (Nat.le_of_ble_eq_true rfl) (Nat.le_of_ble_eq_true rfl) dX10_takes_89
    · rw [if_pos c10] at h9
      refine lv_iconst (v := 1) hx hb dX10_takes_64 (by decide) ?_
      exact h_zret hx hb hr hlk hV h9 (Nat.le_of_ble_eq_true rfl) (Nat.le_of_ble_eq_true rfl) dX10_takes_65
def fX10_takes_18 (fu : Nat) (S : hS) (a0 : Nat) (x1 : Int32) (x2 : Int32) : Option (Int32 × hS) := (gR S 9 5 (some a0)).bind fun v1 => (aI S 10 v1 x1).bind fun v4 => if v4 ≤ 0 then (fX10_takes_52 fu S a0 x1 x2) else ((gR S 9 5 (some a0)).bind fun v8 =>
(aI S 10 v8 x1).bind fun v11 =>
(rcv S 9 (some a0)).bind fun b16 =>
bn2 (fX10_room fu S b16 v11) fun r14 S15 =>
if r14 = (-1 : Int32) then ((zz (0 : Int32)).bind (fun v => some (v, S15))) else ((gR S15 9 9 (some a0)).bind fun v23 =>
(sV S15 10 v23 x1 (.int r14)).bind fun S26 =>
fX10_takes_52 fu S26 a0 x1 x2))
set_option maxHeartbeats 4000000 in
set_option maxRecDepth 100000 in
theorem kX10_takes_18 {p : Program} {l : Launch} {e : Env} {s : State} {m : MethodId} {args : Array Value} {below : List Frame} {meth : Method} {c : Code} {D : hD} {S0 : hS} {z : Int32 × hS} (C : hCx p m c cX10_takes 4 s args RX10 meth (some .boolean) D) (fu : Nat) : ∀ (S : hS) (a0 : Nat) (x1 : Int32) (x2 : Int32) (H : Heap) (locs : List Loc) (ls : Array Slot), fX10_takes_18 fu S a0 x1 x2 = some z → h_V D (h_A S0) s S H locs → hl_has ls 4 [(0, .inr (some a0)), (1, .inl x1), (2, .inl x2)] → W p l e { frames := 3, cells := 0, slots := 0, locals := 69 } s m args below meth c H locs 0 0 (MQ below (h_Q D (h_A S0) (some (.int z.1)) z.2) args s 0 0 (h_A S0)) (F0 m 18 ls []) := by
  obtain ⟨-, hx, hb, hml, hown, hr, hlk, hK, hts⟩ := id C
  intro S a0 x1 x2 _ _ _ h hV hl
  unfold fX10_takes_18 at h
  refine hr_aload_n hx hb dX10_takes_18 rfl (hr_at hl 0 rfl) ?_
  obtain ⟨v1, g2, h3⟩ := hbind h; clear h
  refine h_gR hx hb hown hV g2 (flRX10_13 hts hK) dX10_takes_19 ?_
  refine lv_iload_n hx hb dX10_takes_22 rfl (hi_at hl 1 rfl) ?_
  obtain ⟨v4, g5, h6⟩ := hbind h3; clear h3
  refine h_iald hx hb hK hV g5 dX10_takes_23 ?_
  refine lv_if_le (tgt := 52) hx hb dX10_takes_24 (by decide) (fun c7 => ?_) (fun c7 => ?_)
  · rw [if_pos c7] at h6
    exact kX10_takes_52 C fu S a0 x1 x2 _ _ _ h6 hV (hl_sub hl [0, 1, 2] rfl)
  · rw [if_neg c7] at h6
    refine hr_aload_n hx hb dX10_takes_27 rfl (hr_at hl 0 rfl) ?_
    refine hr_aload_n hx hb dX10_takes_28 rfl (hr_at hl 0 rfl) ?_
    obtain ⟨v8, g9, h10⟩ := hbind h6; clear h6
    refine h_gR hx hb hown hV g9 (flRX10_13 hts hK) dX10_takes_29 ?_
    refine lv_iload_n hx hb dX10_takes_32 rfl (hi_at hl 1 rfl) ?_
    obtain ⟨v11, g12, h13⟩ := hbind h10; clear h10
    refine h_iald hx hb hK hV g12 dX10_takes_33 ?_
    obtain ⟨b16, g17, h18⟩ := hbind h13; clear h13
    obtain ⟨_, _, e19, q19⟩ := rcv_inv g17
    obtain ⟨r14, S15, g20, h21⟩ := hbn2 h18; clear h18
    refine h_callV (n := 1) (As := [.int v11]) (rest := []) (st1 := [.int r14]) (fr := 2) (lo := 45) (mc := 0) (ms := 0) C.1 hK hV q19 rfl rfl wd815 wd812 wd814 wd45 wd83 ⟨by decide, by decide, by decide⟩ ⟨(Nat.le_of_ble_eq_true rfl), (Nat.le_of_ble_eq_true rfl)⟩ rfl hl.1 (hW_ok [] (Nat.le_of_ble_eq_true rfl)) dX10_takes_34 ⟨(Nat.le_of_ble_eq_true rfl), (Nat.le_of_ble_eq_true rfl)⟩ rfl (by rw [e19]; rfl) (mX10_room l D fu S b16 v11 _ g20) (fun H locs hV => ?_)
    refine h_istore_n (tl' := [(3, .inl r14), (0, .inr (some a0)), (1, .inl x1), (2, .inl x2)]) hx hb dX10_takes_37 rfl hl (by decide) rfl (fun ls hl => ?_)
    refine lv_iload_n hx hb dX10_takes_38 rfl (hi_at hl 0 rfl) ?_
    refine lv_iconst (v := -1) hx hb dX10_takes_39 (by decide) ?_
    refine lv_icmp_ne (tgt := 45) hx hb dX10_takes_40 (by decide) (fun c22 => ?_) (fun c22 => ?_)
    · rw [if_neg c22] at h21
      refine hr_aload_n hx hb dX10_takes_45 rfl (hr_at hl 1 rfl) ?_
      obtain ⟨v23, g24, h25⟩ := hbind h21; clear h21
      refine h_gR hx hb hown hV g24 (flRX10_25 hts hK) dX10_takes_46 ?_
      refine lv_iload_n hx hb dX10_takes_49 rfl (hi_at hl 2 rfl) ?_
      refine lv_iload_n hx hb dX10_takes_50 rfl (hi_at hl 0 rfl) ?_
      obtain ⟨S26, g27, h28⟩ := hbind h25; clear h25
      refine h_iast hx hb hK hV g27 dX10_takes_51 (fun H locs hV => ?_)
      exact kX10_takes_52 C fu S26 a0 x1 x2 _ _ _ h28 hV (hl_sub hl [1, 2, 3] rfl)
    · rw [if_pos c22] at h21
      refine lv_iconst (v := 0) hx hb dX10_takes_43 (by decide) ?_
      exact h_zret hx hb hr hlk hV h21 (Nat.le_of_ble_eq_true rfl) (Nat.le_of_ble_eq_true rfl) dX10_takes_44
def fX10_takes (fu : Nat) (S : hS) (a0 : Nat) (x1 : Int32) (x2 : Int32) : Option (Int32 × hS) := (gR S 9 9 (some a0)).bind fun v1 => (sV S 10 v1 x1 (.int (-1 : Int32))).bind fun S4 => if x2 = 0 then ((gR S4 9 10 (some a0)).bind fun v8 =>
(sV S4 10 v8 x1 (.int (-1 : Int32))).bind fun S11 =>
fX10_takes_18 fu S11 a0 x1 x2) else (fX10_takes_18 fu S4 a0 x1 x2)
set_option maxHeartbeats 4000000 in
set_option maxRecDepth 100000 in
theorem mX10_takes (l : Launch) (D : hD) (fu : Nat) (S : hS) (a0 : Nat) (x1 : Int32) (x2 : Int32) (z : Int32 × hS) (h : fX10_takes fu S a0 x1 x2 = some z) : hM l D yX10_takes cX10_takes 4 (some .boolean) 3 69 0 0 [va_rf (some a0), .int x1, .int x2] S (some (.int z.1)) z.2 := by
  refine h_body [.inr (some a0), .inl x1, .inl x2] RX10 (by decide) rfl (Nat.le_of_ble_eq_true rfl) ?_
  intro p e s m args below meth c C hin ls hV hl
  obtain ⟨-, hx, hb, hml, hown, hr, hlk, hK, hts⟩ := id C
  unfold fX10_takes at h
  refine hr_aload_n hx hb dX10_takes_0 rfl (hr_at hl 0 rfl) ?_
  obtain ⟨v1, g2, h3⟩ := hbind h; clear h
  refine h_gR hx hb hown hV g2 (flRX10_25 hts hK) dX10_takes_1 ?_
  refine lv_iload_n hx hb dX10_takes_4 rfl (hi_at hl 1 rfl) ?_
  refine lv_iconst (v := -1) hx hb dX10_takes_5 (by decide) ?_
  obtain ⟨S4, g5, h6⟩ := hbind h3; clear h3
  refine h_iast hx hb hK hV g5 dX10_takes_6 (fun H locs hV => ?_)
  refine lv_iload_n hx hb dX10_takes_7 rfl (hi_at hl 2 rfl) ?_
  refine lv_if_ne (tgt := 18) hx hb dX10_takes_8 (by decide) (fun c7 => ?_) (fun c7 => ?_)
  · rw [if_neg c7] at h6
    exact kX10_takes_18 C fu S4 a0 x1 x2 _ _ _ h6 hV (hl_sub hl [0, 1, 2] rfl)
  · rw [if_pos c7] at h6
    refine hr_aload_n hx hb dX10_takes_11 rfl (hr_at hl 0 rfl) ?_
    obtain ⟨v8, g9, h10⟩ := hbind h6; clear h6
    refine h_gR hx hb hown hV g9 (flRX10_28 hts hK) dX10_takes_12 ?_
    refine lv_iload_n hx hb dX10_takes_15 rfl (hi_at hl 1 rfl) ?_
    refine lv_iconst (v := -1) hx hb dX10_takes_16 (by decide) ?_
    obtain ⟨S11, g12, h13⟩ := hbind h10; clear h10
    refine h_iast hx hb hK hV g12 dX10_takes_17 (fun H locs hV => ?_)
    exact kX10_takes_18 C fu S11 a0 x1 x2 _ _ _ h13 hV (hl_sub hl [0, 1, 2] rfl)
