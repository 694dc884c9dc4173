def fL_law_541 (xs : Nat → Int32) (L : Nat) (fu : Nat) (k48 : hS → Option Nat → Option Nat → Int32 → Option (Int32 × hS)) (S : hS) (x1 x2 : Option Nat) (x3 : Int32) : Option (Int32 × hS) := k48 S x1 x2 (x3 + (4 : Int32))
set_option maxHeartbeats 4000000 in
set_option maxRecDepth 100000 in
theorem kL_law_541 {p : Program} {l : Launch} {e : Env} {s : State} {m : MethodId} {below : List Frame} {meth : Method} {c : Code} {D : hD} {b L : Nat} {xs : Nat → Int32} {S0 : hS} {z : Int32 × hS} (C : hCx p m c cL_law 4 s #[Value.ref b] RL meth (some .boolean) D) (hS0 : S0 = (fun _ => none, s.heap.size)) (hX : va_X b L xs s s.heap) (hbl : b < s.heap.size) (hz : z.1 = 1) (fu : Nat) (k48 : hS → Option Nat → Option Nat → Int32 → Option (Int32 × hS)) (hk48 : ∀ (S : hS) (x1 x2 : Option Nat) (x3 : Int32) (H : Heap) (locs : List Loc) (ls : Array Slot) (cl0 sl0 : Nat), k48 S x1 x2 x3 = some z → h_V D (h_A S0) s S H locs → hl_has ls 4 [(0, .inr (some b)), (1, .inr x1), (2, .inr x2), (3, .inl x3)] → hLw x3 cl0 sl0 → W p l e room_1 s m #[Value.ref b] below meth c H locs cl0 sl0 (lw_Z below #[Value.ref b] s) (F0 m 48 ls [])) : ∀ (S : hS) (x1 x2 : Option Nat) (x3 : Int32) (H : Heap) (locs : List Loc) (ls : Array Slot) (cl0 sl0 : Nat), fL_law_541 xs L fu k48 S x1 x2 x3 = some z → h_V D (h_A S0) s S H locs → hl_has ls 4 [(0, .inr (some b)), (1, .inr x1), (2, .inr x2), (3, .inl x3)] → hLv x3 cl0 sl0 → W p l e room_1 s m #[Value.ref b] below meth c H locs cl0 sl0 (lw_Z below #[Value.ref b] s) (F0 m 541 ls []) := by
  obtain ⟨-, hx, hb, hml, hown, hr, hlk, hK, hts⟩ := id C
  intro S x1 x2 x3 H locs ls cl0 sl0 h hV hl hw
  unfold fL_law_541 at h
  refine h_iinc (v := (x3 + (4 : Int32))) (tl' := [(3, .inl (x3 + (4 : Int32))), (0, .inr (some b)), (1, .inr x1), (2, .inr x2)]) hx hb dL_law_541 hl (k := 3) rfl rfl (by decide) rfl (fun ls hl => ?_)
  refine lv_goto (tgt := 48) hx hb dL_law_544 (by decide) ?_
  exact hk48 S x1 x2 (x3 + (4 : Int32)) _ _ _ _ _ h hV (hl_sub hl [1, 2, 3, 0] rfl) (hLw_next hw)
def fL_law_48 (xs : Nat → Int32) (L : Nat) (fu : Nat) : Nat → hS → Option Nat → Option Nat → Int32 → Option (Int32 × hS)
  | 0, _, _, _, _ => none
  | n + 1, S, x1, x2, x3 => if ((Int32.ofNat L) - (4 : Int32)) < x3 then ((zz (1 : Int32)).bind (fun v => some (v, S))) else ((sx xs L x3).bind fun v2 =>
if (v2 &&& (15 : Int32)) = 0 then ((sx xs L (x3 + (1 : Int32))).bind fun v6 =>
(sx xs L (x3 + (2 : Int32))).bind fun v9 =>
(sx xs L (x3 + (3 : Int32))).bind fun v12 =>
(rcv S 8 x1).bind fun b17 =>
bn2 (fX9_open fu S b17 v6 v9 v12) fun r15 S16 =>
(sx xs L (x3 + (1 : Int32))).bind fun v23 =>
(sx xs L (x3 + (2 : Int32))).bind fun v26 =>
(sx xs L (x3 + (3 : Int32))).bind fun v29 =>
(rcv S16 9 x2).bind fun b34 =>
bn2 (fX10_open fu S16 b34 v23 v26 v29) fun r32 S33 =>
if r15 = r32 then (fL_law_541 xs L fu (fL_law_48 xs L fu n) S33 x1 x2 x3) else ((zz (0 : Int32)).bind (fun v => some (v, S33)))) else if (v2 &&& (15 : Int32)) = 1 then ((sx xs L (x3 + (1 : Int32))).bind fun v42 =>
(sx xs L (x3 + (2 : Int32))).bind fun v45 =>
(sx xs L (x3 + (3 : Int32))).bind fun v48 =>
(rcv S 8 x1).bind fun b53 =>
bn2 (fX9_put fu S b53 v42 v45 v48) fun r51 S52 =>
(sx xs L (x3 + (1 : Int32))).bind fun v59 =>
(sx xs L (x3 + (2 : Int32))).bind fun v62 =>
(sx xs L (x3 + (3 : Int32))).bind fun v65 =>
(rcv S52 9 x2).bind fun b70 =>
bn2 (fX10_put fu S52 b70 v59 v62 v65) fun r68 S69 =>
if r51 = r68 then (fL_law_541 xs L fu (fL_law_48 xs L fu n) S69 x1 x2 x3) else ((zz (0 : Int32)).bind (fun v => some (v, S69)))) else if (v2 &&& (15 : Int32)) = 2 then ((sx xs L (x3 + (1 : Int32))).bind fun v78 =>
(sx xs L (x3 + (2 : Int32))).bind fun v81 =>
(rcv S 8 x1).bind fun b86 =>
bn2 (fX9_resize fu S b86 v78 v81) fun r84 S85 =>
(sx xs L (x3 + (1 : Int32))).bind fun v92 =>
(sx xs L (x3 + (2 : Int32))).bind fun v95 =>
(rcv S85 9 x2).bind fun b100 =>
bn2 (fX10_resize fu S85 b100 v92 v95) fun r98 S99 =>
if r84 = r98 then (fL_law_541 xs L fu (fL_law_48 xs L fu n) S99 x1 x2 x3) else ((zz (0 : Int32)).bind (fun v => some (v, S99)))) else if (v2 &&& (15 : Int32)) = 3 then ((sx xs L (x3 + (1 : Int32))).bind fun v108 =>
(rcv S 8 x1).bind fun b113 =>
bn2 (fX9_submit fu S b113 v108) fun r111 S112 =>
(sx xs L (x3 + (1 : Int32))).bind fun v119 =>
(rcv S112 9 x2).bind fun b124 =>
bn2 (fX10_submit fu S112 b124 v119) fun r122 S123 =>
if r111 = r122 then (fL_law_541 xs L fu (fL_law_48 xs L fu n) S123 x1 x2 x3) else ((zz (0 : Int32)).bind (fun v => some (v, S123)))) else if (v2 &&& (15 : Int32)) = 4 then ((rcv S 8 x1).bind fun b134 =>
bn2 (fX9_tick fu S b134) fun r132 S133 =>
(rcv S133 9 x2).bind fun b142 =>
bn2 (fX10_tick fu S133 b142) fun r140 S141 =>
if r132 = r140 then (fL_law_541 xs L fu (fL_law_48 xs L fu n) S141 x1 x2 x3) else ((zz (0 : Int32)).bind (fun v => some (v, S141)))) else if (v2 &&& (15 : Int32)) = 5 then ((sx xs L (x3 + (1 : Int32))).bind fun v150 =>
(rcv S 8 x1).bind fun b155 =>
bn2 (fX9_run fu S b155 v150) fun r153 S154 =>
(sx xs L (x3 + (1 : Int32))).bind fun v161 =>
(rcv S154 9 x2).bind fun b166 =>
bn2 (fX10_run fu S154 b166 v161) fun r164 S165 =>
if r153 = r164 then (fL_law_541 xs L fu (fL_law_48 xs L fu n) S165 x1 x2 x3) else ((zz (0 : Int32)).bind (fun v => some (v, S165)))) else if (v2 &&& (15 : Int32)) = 6 then ((sx xs L (x3 + (1 : Int32))).bind fun v174 =>
(rcv S 8 x1).bind fun b179 =>
bn2 (fX9_state fu S b179 v174) fun r177 S178 =>
(sx xs L (x3 + (1 : Int32))).bind fun v185 =>
(rcv S178 9 x2).bind fun b190 =>
bn2 (fX10_state fu S178 b190 v185) fun r188 S189 =>
if r177 = r188 then (fL_law_541 xs L fu (fL_law_48 xs L fu n) S189 x1 x2 x3) else ((zz (0 : Int32)).bind (fun v => some (v, S189)))) else if (v2 &&& (15 : Int32)) = 7 then ((sx xs L (x3 + (1 : Int32))).bind fun v198 =>
(sx xs L (x3 + (2 : Int32))).bind fun v201 =>
(rcv S 8 x1).bind fun b206 =>
bn2 (fX9_get fu S b206 v198 v201) fun r204 S205 =>
(sx xs L (x3 + (1 : Int32))).bind fun v212 =>
(sx xs L (x3 + (2 : Int32))).bind fun v215 =>
(rcv S205 9 x2).bind fun b220 =>
bn2 (fX10_get fu S205 b220 v212 v215) fun r218 S219 =>
if r204 = r218 then (fL_law_541 xs L fu (fL_law_48 xs L fu n) S219 x1 x2 x3) else ((zz (0 : Int32)).bind (fun v => some (v, S219)))) else if (v2 &&& (15 : Int32)) = 8 then ((sx xs L (x3 + (1 : Int32))).bind fun v228 =>
(rcv S 8 x1).bind fun b233 =>
bn2 (fX9_cancel fu S b233 v228) fun r231 S232 =>
(sx xs L (x3 + (1 : Int32))).bind fun v239 =>
(rcv S232 9 x2).bind fun b244 =>
bn2 (fX10_cancel fu S232 b244 v239) fun r242 S243 =>
if r231 = r242 then (fL_law_541 xs L fu (fL_law_48 xs L fu n) S243 x1 x2 x3) else ((zz (0 : Int32)).bind (fun v => some (v, S243)))) else if (v2 &&& (15 : Int32)) = 9 then ((sx xs L (x3 + (1 : Int32))).bind fun v252 =>
(sx xs L (x3 + (2 : Int32))).bind fun v255 =>
(rcv S 8 x1).bind fun b260 =>
bn2 (fX9_raise fu S b260 v252 v255) fun r258 S259 =>
(sx xs L (x3 + (1 : Int32))).bind fun v266 =>
(sx xs L (x3 + (2 : Int32))).bind fun v269 =>
(rcv S259 9 x2).bind fun b274 =>
bn2 (fX10_raise fu S259 b274 v266 v269) fun r272 S273 =>
if r258 = r272 then (fL_law_541 xs L fu (fL_law_48 xs L fu n) S273 x1 x2 x3) else ((zz (0 : Int32)).bind (fun v => some (v, S273)))) else if (v2 &&& (15 : Int32)) = 10 then ((sx xs L (x3 + (1 : Int32))).bind fun v282 =>
(rcv S 8 x1).bind fun b287 =>
bn2 (fX9_close fu S b287 v282) fun r285 S286 =>
(sx xs L (x3 + (1 : Int32))).bind fun v293 =>
(rcv S286 9 x2).bind fun b298 =>
bn2 (fX10_close fu S286 b298 v293) fun r296 S297 =>
if r285 = r296 then (fL_law_541 xs L fu (fL_law_48 xs L fu n) S297 x1 x2 x3) else ((zz (0 : Int32)).bind (fun v => some (v, S297)))) else if (v2 &&& (15 : Int32)) = 11 then ((rcv S 8 x1).bind fun b308 =>
bn2 (fX9_pack fu S b308) fun r306 S307 =>
(rcv S307 9 x2).bind fun b316 =>
bn2 (fX10_pack fu S307 b316) fun r314 S315 =>
if r306 = r314 then (fL_law_541 xs L fu (fL_law_48 xs L fu n) S315 x1 x2 x3) else ((zz (0 : Int32)).bind (fun v => some (v, S315)))) else if (v2 &&& (15 : Int32)) = 12 then ((sx xs L (x3 + (1 : Int32))).bind fun v324 =>
(rcv S 8 x1).bind fun b329 =>
bn2 (fX9_word fu S b329 v324) fun r327 S328 =>
(sx xs L (x3 + (1 : Int32))).bind fun v335 =>
(rcv S328 9 x2).bind fun b340 =>
bn2 (fX10_word fu S328 b340 v335) fun r338 S339 =>
if r327 = r338 then (fL_law_541 xs L fu (fL_law_48 xs L fu n) S339 x1 x2 x3) else ((zz (0 : Int32)).bind (fun v => some (v, S339)))) else if (v2 &&& (15 : Int32)) = 13 then ((sx xs L (x3 + (1 : Int32))).bind fun v348 =>
(sx xs L (x3 + (2 : Int32))).bind fun v351 =>
(rcv S 8 x1).bind fun b356 =>
bn2 (fX9_job fu S b356 v348 v351) fun r354 S355 =>
(sx xs L (x3 + (1 : Int32))).bind fun v362 =>
(sx xs L (x3 + (2 : Int32))).bind fun v365 =>
(rcv S355 9 x2).bind fun b370 =>
bn2 (fX10_job fu S355 b370 v362 v365) fun r368 S369 =>
if r354 = r368 then (fL_law_541 xs L fu (fL_law_48 xs L fu n) S369 x1 x2 x3) else ((zz (0 : Int32)).bind (fun v => some (v, S369)))) else if (v2 &&& (15 : Int32)) = 14 then ((sx xs L (x3 + (1 : Int32))).bind fun v378 =>
(rcv S 8 x1).bind fun b383 =>
bn2 (fX9_count fu S b383 v378) fun r381 S382 =>
(sx xs L (x3 + (1 : Int32))).bind fun v389 =>
(rcv S382 9 x2).bind fun b394 =>
bn2 (fX10_count fu S382 b394 v389) fun r392 S393 =>
if r381 = r392 then (fL_law_541 xs L fu (fL_law_48 xs L fu n) S393 x1 x2 x3) else ((zz (0 : Int32)).bind (fun v => some (v, S393)))) else (fL_law_541 xs L fu (fL_law_48 xs L fu n) S x1 x2 x3))
set_option maxHeartbeats 4000000 in
set_option maxRecDepth 100000 in
theorem kL_law_48 {p : Program} {l : Launch} {e : Env} {s : State} {m : MethodId} {below : List Frame} {meth : Method} {c : Code} {D : hD} {b L : Nat} {xs : Nat → Int32} {S0 : hS} {z : Int32 × hS} (C : hCx p m c cL_law 4 s #[Value.ref b] RL meth (some .boolean) D) (hS0 : S0 = (fun _ => none, s.heap.size)) (hX : va_X b L xs s s.heap) (hbl : b < s.heap.size) (hz : z.1 = 1) (hL : L ≤ 2051) (fu : Nat) : ∀ (n : Nat) (S : hS) (x1 x2 : Option Nat) (x3 : Int32) (H : Heap) (locs : List Loc) (ls : Array Slot) (cl0 sl0 : Nat), fL_law_48 xs L fu n S x1 x2 x3 = some z → h_V D (h_A S0) s S H locs → hl_has ls 4 [(0, .inr (some b)), (1, .inr x1), (2, .inr x2), (3, .inl x3)] → hLw x3 cl0 sl0 → W p l e room_1 s m #[Value.ref b] below meth c H locs cl0 sl0 (lw_Z below #[Value.ref b] s) (F0 m 48 ls []) := by
  obtain ⟨-, hx, hb, hml, hown, hr, hlk, hK, hts⟩ := id C
  have hbA : ¬ h_A S0 b := by rw [hS0]; exact h_A0 hbl
  intro n
  induction n with
  | zero =>
    intro S x1 x2 x3 H locs ls cl0 sl0 h hV hl hw
    rw [fL_law_48] at h
    cases h
  | succ n ih =>
    intro S x1 x2 x3 H locs ls cl0 sl0 h hV hl hw
    obtain ⟨j, ej, hj, hcl, hsl⟩ := id hw
    rw [fL_law_48] at h
    refine lv_iload_n hx hb dL_law_48 rfl (hi_at hl 3 rfl) ?_
    refine hr_aload_n hx hb dL_law_49 rfl (hr_at hl 0 rfl) ?_
    refine h_slen hx hb hX hbl hbA hV dL_law_50 ?_
    refine lv_iconst (v := 4) hx hb dL_law_51 (by decide) ?_
    refine lv_isub hx hb dL_law_52 ?_
    refine lv_icmp_gt (tgt := 547) hx hb dL_law_53 (by decide) (fun c1 => ?_) (fun c1 => ?_)
    · rw [if_pos c1] at h
      refine lv_iconst (v := 1) hx hb dL_law_547 (by decide) ?_
      exact h_lret hx hb hr hlk hS0 hV h hz (by show _ ≤ 702299; omega) (by show _ ≤ 6995350; omega) dL_law_548
    · rw [if_neg c1] at h
      have hj2 : j ≤ 2047 := hLj hL hj (by rw [← ej]; exact c1)
      refine hr_aload_n hx hb dL_law_56 rfl (hr_at hl 0 rfl) ?_
      refine lv_iload_n hx hb dL_law_57 rfl (hi_at hl 3 rfl) ?_
      obtain ⟨v2, g3, h4⟩ := hbind h; clear h
      refine h_sld hx hb hX hbl hbA hV g3 dL_law_58 ?_
      refine lv_bipush (v := 15) hx hb dL_law_59 (by decide) ?_
      refine lv_iand hx hb dL_law_61 ?_
      by_cases c5 : (v2 &&& (15 : Int32)) = 0
      · rw [if_pos c5] at h4
        refine lv_tableIn (off := 74) (tgt := 136) hx hb dL_law_62 (by rw [c5]; decide) (by rw [c5]; decide) (by rw [c5]; rfl) (by decide) ?_
        refine hr_aload_n hx hb dL_law_136 rfl (hr_at hl 1 rfl) ?_
        refine hr_aload_n hx hb dL_law_137 rfl (hr_at hl 0 rfl) ?_
        refine lv_iload_n hx hb dL_law_138 rfl (hi_at hl 3 rfl) ?_
        refine lv_iconst (v := 1) hx hb dL_law_139 (by decide) ?_
        refine lv_iadd hx hb dL_law_140 ?_
        obtain ⟨v6, g7, h8⟩ := hbind h4; clear h4
        refine h_sld hx hb hX hbl hbA hV g7 dL_law_141 ?_
        refine hr_aload_n hx hb dL_law_142 rfl (hr_at hl 0 rfl) ?_
        refine lv_iload_n hx hb dL_law_143 rfl (hi_at hl 3 rfl) ?_
        refine lv_iconst (v := 2) hx hb dL_law_144 (by decide) ?_
        refine lv_iadd hx hb dL_law_145 ?_
        obtain ⟨v9, g10, h11⟩ := hbind h8; clear h8
        refine h_sld hx hb hX hbl hbA hV g10 dL_law_146 ?_
        refine hr_aload_n hx hb dL_law_147 rfl (hr_at hl 0 rfl) ?_
        refine lv_iload_n hx hb dL_law_148 rfl (hi_at hl 3 rfl) ?_
        refine lv_iconst (v := 3) hx hb dL_law_149 (by decide) ?_
        refine lv_iadd hx hb dL_law_150 ?_
        obtain ⟨v12, g13, h14⟩ := hbind h11; clear h11
        refine h_sld hx hb hX hbl hbA hV g13 dL_law_151 ?_
        obtain ⟨b17, g18, h19⟩ := hbind h14; clear h14
        obtain ⟨_, _, e20, q20⟩ := rcv_inv g18
        obtain ⟨r15, S16, g21, h22⟩ := hbn2 h19; clear h19
        refine h_callV (n := 3) (As := [.int v6, .int v9, .int v12]) (rest := []) (st1 := [.int r15]) (fr := 4) (lo := 87) (mc := 3) (ms := 17) C.1 hK hV q20 rfl rfl wd185 wd182 wd183 wd184 wd78 ⟨by decide, by decide, by decide⟩ ⟨(Nat.le_of_ble_eq_true rfl), (Nat.le_of_ble_eq_true rfl)⟩ rfl hl.1 (hW_ok [] (Nat.le_of_ble_eq_true rfl)) dL_law_152 ⟨by show _ ≤ 702299; omega, by show _ ≤ 6995350; omega⟩ rfl (by rw [e20]; rfl) (mX9_open l D fu S b17 v6 v9 v12 _ g21) (fun H locs hV => ?_)
        refine hr_aload_n hx hb dL_law_155 rfl (hr_at hl 2 rfl) ?_
        refine hr_aload_n hx hb dL_law_156 rfl (hr_at hl 0 rfl) ?_
        refine lv_iload_n hx hb dL_law_157 rfl (hi_at hl 3 rfl) ?_
        refine lv_iconst (v := 1) hx hb dL_law_158 (by decide) ?_
        refine lv_iadd hx hb dL_law_159 ?_
        obtain ⟨v23, g24, h25⟩ := hbind h22; clear h22
        refine h_sld hx hb hX hbl hbA hV g24 dL_law_160 ?_
        refine hr_aload_n hx hb dL_law_161 rfl (hr_at hl 0 rfl) ?_
        refine lv_iload_n hx hb dL_law_162 rfl (hi_at hl 3 rfl) ?_
        refine lv_iconst (v := 2) hx hb dL_law_163 (by decide) ?_
        refine lv_iadd hx hb dL_law_164 ?_
        obtain ⟨v26, g27, h28⟩ := hbind h25; clear h25
        refine h_sld hx hb hX hbl hbA hV g27 dL_law_165 ?_
        refine hr_aload_n hx hb dL_law_166 rfl (hr_at hl 0 rfl) ?_
        refine lv_iload_n hx hb dL_law_167 rfl (hi_at hl 3 rfl) ?_
        refine lv_iconst (v := 3) hx hb dL_law_168 (by decide) ?_
        refine lv_iadd hx hb dL_law_169 ?_
        obtain ⟨v29, g30, h31⟩ := hbind h28; clear h28
        refine h_sld hx hb hX hbl hbA hV g30 dL_law_170 ?_
        obtain ⟨b34, g35, h36⟩ := hbind h31; clear h31
        obtain ⟨_, _, e37, q37⟩ := rcv_inv g35
        obtain ⟨r32, S33, g38, h39⟩ := hbn2 h36; clear h36
        refine h_callV (n := 3) (As := [.int v23, .int v26, .int v29]) (rest := [.int r15]) (st1 := [.int r32, .int r15]) (fr := 4) (lo := 92) (mc := 0) (ms := 0) C.1 hK hV q37 rfl rfl wd803 wd800 wd801 wd802 wd83 ⟨by decide, by decide, by decide⟩ ⟨(Nat.le_of_ble_eq_true rfl), (Nat.le_of_ble_eq_true rfl)⟩ rfl hl.1 (hW_ok [.inl r15] (Nat.le_of_ble_eq_true rfl)) dL_law_171 ⟨by show _ ≤ 702299; omega, by show _ ≤ 6995350; omega⟩ rfl (by rw [e37]; rfl) (mX10_open l D fu S16 b34 v23 v26 v29 _ g38) (fun H locs hV => ?_)
        refine lv_icmp_eq (tgt := 541) hx hb dL_law_174 (by decide) (fun c40 => ?_) (fun c40 => ?_)
        · rw [if_pos c40] at h39
          exact kL_law_541 C hS0 hX hbl hz fu _ ih S33 x1 x2 x3 _ _ _ _ _ h39 hV (hl_sub hl [0, 1, 2, 3] rfl) ⟨j, ej, by omega, by omega, by omega⟩
        · rw [if_neg c40] at h39
          refine lv_iconst (v := 0) hx hb dL_law_177 (by decide) ?_
          exact h_lret hx hb hr hlk hS0 hV h39 hz (by show _ ≤ 702299; omega) (by show _ ≤ 6995350; omega) dL_law_178
      · rw [if_neg c5] at h4
        by_cases c41 : (v2 &&& (15 : Int32)) = 1
        · rw [if_pos c41] at h4
          refine lv_tableIn (off := 117) (tgt := 179) hx hb dL_law_62 (by rw [c41]; decide) (by rw [c41]; decide) (by rw [c41]; rfl) (by decide) ?_
          refine hr_aload_n hx hb dL_law_179 rfl (hr_at hl 1 rfl) ?_
          refine hr_aload_n hx hb dL_law_180 rfl (hr_at hl 0 rfl) ?_
          refine lv_iload_n hx hb dL_law_181 rfl (hi_at hl 3 rfl) ?_
          refine lv_iconst (v := 1) hx hb dL_law_182 (by decide) ?_
          refine lv_iadd hx hb dL_law_183 ?_
          obtain ⟨v42, g43, h44⟩ := hbind h4; clear h4
          refine h_sld hx hb hX hbl hbA hV g43 dL_law_184 ?_
          refine hr_aload_n hx hb dL_law_185 rfl (hr_at hl 0 rfl) ?_
          refine lv_iload_n hx hb dL_law_186 rfl (hi_at hl 3 rfl) ?_
          refine lv_iconst (v := 2) hx hb dL_law_187 (by decide) ?_
          refine lv_iadd hx hb dL_law_188 ?_
          obtain ⟨v45, g46, h47⟩ := hbind h44; clear h44
          refine h_sld hx hb hX hbl hbA hV g46 dL_law_189 ?_
          refine hr_aload_n hx hb dL_law_190 rfl (hr_at hl 0 rfl) ?_
          refine lv_iload_n hx hb dL_law_191 rfl (hi_at hl 3 rfl) ?_
          refine lv_iconst (v := 3) hx hb dL_law_192 (by decide) ?_
          refine lv_iadd hx hb dL_law_193 ?_
          obtain ⟨v48, g49, h50⟩ := hbind h47; clear h47
          refine h_sld hx hb hX hbl hbA hV g49 dL_law_194 ?_
          obtain ⟨b53, g54, h55⟩ := hbind h50; clear h50
          obtain ⟨_, _, e56, q56⟩ := rcv_inv g54
          obtain ⟨r51, S52, g57, h58⟩ := hbn2 h55; clear h55
          refine h_callV (n := 3) (As := [.int v42, .int v45, .int v48]) (rest := []) (st1 := [.int r51]) (fr := 1) (lo := 22) (mc := 0) (ms := 0) C.1 hK hV q56 rfl rfl wd289 wd286 wd287 wd288 wd78 ⟨by decide, by decide, by decide⟩ ⟨(Nat.le_of_ble_eq_true rfl), (Nat.le_of_ble_eq_true rfl)⟩ rfl hl.1 (hW_ok [] (Nat.le_of_ble_eq_true rfl)) dL_law_195 ⟨by show _ ≤ 702299; omega, by show _ ≤ 6995350; omega⟩ rfl (by rw [e56]; rfl) (mX9_put l D fu S b53 v42 v45 v48 _ g57) (fun H locs hV => ?_)
          refine hr_aload_n hx hb dL_law_198 rfl (hr_at hl 2 rfl) ?_
          refine hr_aload_n hx hb dL_law_199 rfl (hr_at hl 0 rfl) ?_
          refine lv_iload_n hx hb dL_law_200 rfl (hi_at hl 3 rfl) ?_
          refine lv_iconst (v := 1) hx hb dL_law_201 (by decide) ?_
          refine lv_iadd hx hb dL_law_202 ?_
          obtain ⟨v59, g60, h61⟩ := hbind h58; clear h58
          refine h_sld hx hb hX hbl hbA hV g60 dL_law_203 ?_
          refine hr_aload_n hx hb dL_law_204 rfl (hr_at hl 0 rfl) ?_
          refine lv_iload_n hx hb dL_law_205 rfl (hi_at hl 3 rfl) ?_
          refine lv_iconst (v := 2) hx hb dL_law_206 (by decide) ?_
          refine lv_iadd hx hb dL_law_207 ?_
          obtain ⟨v62, g63, h64⟩ := hbind h61; clear h61
          refine h_sld hx hb hX hbl hbA hV g63 dL_law_208 ?_
          refine hr_aload_n hx hb dL_law_209 rfl (hr_at hl 0 rfl) ?_
          refine lv_iload_n hx hb dL_law_210 rfl (hi_at hl 3 rfl) ?_
          refine lv_iconst (v := 3) hx hb dL_law_211 (by decide) ?_
          refine lv_iadd hx hb dL_law_212 ?_
          obtain ⟨v65, g66, h67⟩ := hbind h64; clear h64
          refine h_sld hx hb hX hbl hbA hV g66 dL_law_213 ?_
          obtain ⟨b70, g71, h72⟩ := hbind h67; clear h67
          obtain ⟨_, _, e73, q73⟩ := rcv_inv g71
          obtain ⟨r68, S69, g74, h75⟩ := hbn2 h72; clear h72
          refine h_callV (n := 3) (As := [.int v59, .int v62, .int v65]) (rest := [.int r51]) (st1 := [.int r68, .int r51]) (fr := 2) (lo := 42) (mc := 0) (ms := 0) C.1 hK hV q73 rfl rfl wd835 wd832 wd833 wd834 wd83 ⟨by decide, by decide, by decide⟩ ⟨(Nat.le_of_ble_eq_true rfl), (Nat.le_of_ble_eq_true rfl)⟩ rfl hl.1 (hW_ok [.inl r51] (Nat.le_of_ble_eq_true rfl)) dL_law_214 ⟨by show _ ≤ 702299; omega, by show _ ≤ 6995350; omega⟩ rfl (by rw [e73]; rfl) (mX10_put l D fu S52 b70 v59 v62 v65 _ g74) (fun H locs hV => ?_)
          refine lv_icmp_eq (tgt := 541) hx hb dL_law_217 (by decide) (fun c76 => ?_) (fun c76 => ?_)
          · rw [if_pos c76] at h75
            exact kL_law_541 C hS0 hX hbl hz fu _ ih S69 x1 x2 x3 _ _ _ _ _ h75 hV (hl_sub hl [0, 1, 2, 3] rfl) ⟨j, ej, by omega, by omega, by omega⟩
          · rw [if_neg c76] at h75
            refine lv_iconst (v := 0) hx hb dL_law_220 (by decide) ?_
            exact h_lret hx hb hr hlk hS0 hV h75 hz (by show _ ≤ 702299; omega) (by show _ ≤ 6995350; omega) dL_law_221
        · rw [if_neg c41] at h4
          by_cases c77 : (v2 &&& (15 : Int32)) = 2
          · rw [if_pos c77] at h4
            refine lv_tableIn (off := 160) (tgt := 222) hx hb dL_law_62 (by rw [c77]; decide) (by rw [c77]; decide) (by rw [c77]; rfl) (by decide) ?_
            refine hr_aload_n hx hb dL_law_222 rfl (hr_at hl 1 rfl) ?_
            refine hr_aload_n hx hb dL_law_223 rfl (hr_at hl 0 rfl) ?_
            refine lv_iload_n hx hb dL_law_224 rfl (hi_at hl 3 rfl) ?_
            refine lv_iconst (v := 1) hx hb dL_law_225 (by decide) ?_
            refine lv_iadd hx hb dL_law_226 ?_
            obtain ⟨v78, g79, h80⟩ := hbind h4; clear h4
            refine h_sld hx hb hX hbl hbA hV g79 dL_law_227 ?_
            refine hr_aload_n hx hb dL_law_228 rfl (hr_at hl 0 rfl) ?_
            refine lv_iload_n hx hb dL_law_229 rfl (hi_at hl 3 rfl) ?_
            refine lv_iconst (v := 2) hx hb dL_law_230 (by decide) ?_
            refine lv_iadd hx hb dL_law_231 ?_
            obtain ⟨v81, g82, h83⟩ := hbind h80; clear h80
            refine h_sld hx hb hX hbl hbA hV g82 dL_law_232 ?_
            obtain ⟨b86, g87, h88⟩ := hbind h83; clear h83
            obtain ⟨_, _, e89, q89⟩ := rcv_inv g87
            obtain ⟨r84, S85, g90, h91⟩ := hbn2 h88; clear h88
            refine h_callV (n := 2) (As := [.int v78, .int v81]) (rest := []) (st1 := [.int r84]) (fr := 5) (lo := 115) (mc := 0) (ms := 0) C.1 hK hV q89 rfl rfl wd302 wd299 wd300 wd301 wd78 ⟨by decide, by decide, by decide⟩ ⟨(Nat.le_of_ble_eq_true rfl), (Nat.le_of_ble_eq_true rfl)⟩ rfl hl.1 (hW_ok [] (Nat.le_of_ble_eq_true rfl)) dL_law_233 ⟨by show _ ≤ 702299; omega, by show _ ≤ 6995350; omega⟩ rfl (by rw [e89]; rfl) (mX9_resize l D fu S b86 v78 v81 _ g90) (fun H locs hV => ?_)
            refine hr_aload_n hx hb dL_law_236 rfl (hr_at hl 2 rfl) ?_
            refine hr_aload_n hx hb dL_law_237 rfl (hr_at hl 0 rfl) ?_
            refine lv_iload_n hx hb dL_law_238 rfl (hi_at hl 3 rfl) ?_
            refine lv_iconst (v := 1) hx hb dL_law_239 (by decide) ?_
            refine lv_iadd hx hb dL_law_240 ?_
            obtain ⟨v92, g93, h94⟩ := hbind h91; clear h91
            refine h_sld hx hb hX hbl hbA hV g93 dL_law_241 ?_
            refine hr_aload_n hx hb dL_law_242 rfl (hr_at hl 0 rfl) ?_
            refine lv_iload_n hx hb dL_law_243 rfl (hi_at hl 3 rfl) ?_
            refine lv_iconst (v := 2) hx hb dL_law_244 (by decide) ?_
            refine lv_iadd hx hb dL_law_245 ?_
            obtain ⟨v95, g96, h97⟩ := hbind h94; clear h94
            refine h_sld hx hb hX hbl hbA hV g96 dL_law_246 ?_
            obtain ⟨b100, g101, h102⟩ := hbind h97; clear h97
            obtain ⟨_, _, e103, q103⟩ := rcv_inv g101
            obtain ⟨r98, S99, g104, h105⟩ := hbn2 h102; clear h102
            refine h_callV (n := 2) (As := [.int v92, .int v95]) (rest := [.int r84]) (st1 := [.int r98, .int r84]) (fr := 4) (lo := 92) (mc := 0) (ms := 0) C.1 hK hV q103 rfl rfl wd843 wd840 wd841 wd842 wd83 ⟨by decide, by decide, by decide⟩ ⟨(Nat.le_of_ble_eq_true rfl), (Nat.le_of_ble_eq_true rfl)⟩ rfl hl.1 (hW_ok [.inl r84] (Nat.le_of_ble_eq_true rfl)) dL_law_247 ⟨by show _ ≤ 702299; omega, by show _ ≤ 6995350; omega⟩ rfl (by rw [e103]; rfl) (mX10_resize l D fu S85 b100 v92 v95 _ g104) (fun H locs hV => ?_)
            refine lv_icmp_eq (tgt := 541) hx hb dL_law_250 (by decide) (fun c106 => ?_) (fun c106 => ?_)
            · rw [if_pos c106] at h105
              exact kL_law_541 C hS0 hX hbl hz fu _ ih S99 x1 x2 x3 _ _ _ _ _ h105 hV (hl_sub hl [0, 1, 2, 3] rfl) ⟨j, ej, by omega, by omega, by omega⟩
            · rw [if_neg c106] at h105
              refine lv_iconst (v := 0) hx hb dL_law_253 (by decide) ?_
              exact h_lret hx hb hr hlk hS0 hV h105 hz (by show _ ≤ 702299; omega) (by show _ ≤ 6995350; omega) dL_law_254
          · rw [if_neg c77] at h4
            by_cases c107 : (v2 &&& (15 : Int32)) = 3
            · rw [if_pos c107] at h4
              refine lv_tableIn (off := 193) (tgt := 255) hx hb dL_law_62 (by rw [c107]; decide) (by rw [c107]; decide) (by rw [c107]; rfl) (by decide) ?_
              refine hr_aload_n hx hb dL_law_255 rfl (hr_at hl 1 rfl) ?_
              refine hr_aload_n hx hb dL_law_256 rfl (hr_at hl 0 rfl) ?_
              refine lv_iload_n hx hb dL_law_257 rfl (hi_at hl 3 rfl) ?_
              refine lv_iconst (v := 1) hx hb dL_law_258 (by decide) ?_
              refine lv_iadd hx hb dL_law_259 ?_
              obtain ⟨v108, g109, h110⟩ := hbind h4; clear h4
              refine h_sld hx hb hX hbl hbA hV g109 dL_law_260 ?_
              obtain ⟨b113, g114, h115⟩ := hbind h110; clear h110
              obtain ⟨_, _, e116, q116⟩ := rcv_inv g114
              obtain ⟨r111, S112, g117, h118⟩ := hbn2 h115; clear h115
              refine h_callV (n := 1) (As := [.int v108]) (rest := []) (st1 := [.int r111]) (fr := 4) (lo := 85) (mc := 1) (ms := 12) C.1 hK hV q116 rfl rfl wd321 wd318 wd319 wd320 wd78 ⟨by decide, by decide, by decide⟩ ⟨(Nat.le_of_ble_eq_true rfl), (Nat.le_of_ble_eq_true rfl)⟩ rfl hl.1 (hW_ok [] (Nat.le_of_ble_eq_true rfl)) dL_law_261 ⟨by show _ ≤ 702299; omega, by show _ ≤ 6995350; omega⟩ rfl (by rw [e116]; rfl) (mX9_submit l D fu S b113 v108 _ g117) (fun H locs hV => ?_)
              refine hr_aload_n hx hb dL_law_264 rfl (hr_at hl 2 rfl) ?_
              refine hr_aload_n hx hb dL_law_265 rfl (hr_at hl 0 rfl) ?_
              refine lv_iload_n hx hb dL_law_266 rfl (hi_at hl 3 rfl) ?_
              refine lv_iconst (v := 1) hx hb dL_law_267 (by decide) ?_
              refine lv_iadd hx hb dL_law_268 ?_
              obtain ⟨v119, g120, h121⟩ := hbind h118; clear h118
              refine h_sld hx hb hX hbl hbA hV g120 dL_law_269 ?_
              obtain ⟨b124, g125, h126⟩ := hbind h121; clear h121
              obtain ⟨_, _, e127, q127⟩ := rcv_inv g125
              obtain ⟨r122, S123, g128, h129⟩ := hbn2 h126; clear h126
              refine h_callV (n := 1) (As := [.int v119]) (rest := [.int r111]) (st1 := [.int r122, .int r111]) (fr := 5) (lo := 96) (mc := 0) (ms := 0) C.1 hK hV q127 rfl rfl wd847 wd844 wd845 wd846 wd83 ⟨by decide, by decide, by decide⟩ ⟨(Nat.le_of_ble_eq_true rfl), (Nat.le_of_ble_eq_true rfl)⟩ rfl hl.1 (hW_ok [.inl r111] (Nat.le_of_ble_eq_true rfl)) dL_law_270 ⟨by show _ ≤ 702299; omega, by show _ ≤ 6995350; omega⟩ rfl (by rw [e127]; rfl) (mX10_submit l D fu S112 b124 v119 _ g128) (fun H locs hV => ?_)
              refine lv_icmp_eq (tgt := 541) hx hb dL_law_273 (by decide) (fun c130 => ?_) (fun c130 => ?_)
              · rw [if_pos c130] at h129
                exact kL_law_541 C hS0 hX hbl hz fu _ ih S123 x1 x2 x3 _ _ _ _ _ h129 hV (hl_sub hl [0, 1, 2, 3] rfl) ⟨j, ej, by omega, by omega, by omega⟩
              · rw [if_neg c130] at h129
                refine lv_iconst (v := 0) hx hb dL_law_276 (by decide) ?_
                exact h_lret hx hb hr hlk hS0 hV h129 hz (by show _ ≤ 702299; omega) (by show _ ≤ 6995350; omega) dL_law_277
            · rw [if_neg c107] at h4
              by_cases c131 : (v2 &&& (15 : Int32)) = 4
              · rw [if_pos c131] at h4
                refine lv_tableIn (off := 216) (tgt := 278) hx hb dL_law_62 (by rw [c131]; decide) (by rw [c131]; decide) (by rw [c131]; rfl) (by decide) ?_
                refine hr_aload_n hx hb dL_law_278 rfl (hr_at hl 1 rfl) ?_
                obtain ⟨b134, g135, h136⟩ := hbind h4; clear h4
                obtain ⟨_, _, e137, q137⟩ := rcv_inv g135
                obtain ⟨r132, S133, g138, h139⟩ := hbn2 h136; clear h136
                refine h_callV (n := 0) (As := []) (rest := []) (st1 := [.int r132]) (fr := 7) (lo := 149) (mc := 0) (ms := 0) C.1 hK hV q137 rfl rfl wd518 wd515 wd516 wd517 wd78 ⟨by decide, by decide, by decide⟩ ⟨(Nat.le_of_ble_eq_true rfl), (Nat.le_of_ble_eq_true rfl)⟩ rfl hl.1 (hW_ok [] (Nat.le_of_ble_eq_true rfl)) dL_law_279 ⟨by show _ ≤ 702299; omega, by show _ ≤ 6995350; omega⟩ rfl (by rw [e137]; rfl) (mX9_tick l D fu S b134 _ g138) (fun H locs hV => ?_)
                refine hr_aload_n hx hb dL_law_282 rfl (hr_at hl 2 rfl) ?_
                obtain ⟨b142, g143, h144⟩ := hbind h139; clear h139
                obtain ⟨_, _, e145, q145⟩ := rcv_inv g143
                obtain ⟨r140, S141, g146, h147⟩ := hbn2 h144; clear h144
                refine h_callV (n := 0) (As := []) (rest := [.int r132]) (st1 := [.int r140, .int r132]) (fr := 5) (lo := 96) (mc := 0) (ms := 0) C.1 hK hV q145 rfl rfl wd935 wd932 wd933 wd934 wd83 ⟨by decide, by decide, by decide⟩ ⟨(Nat.le_of_ble_eq_true rfl), (Nat.le_of_ble_eq_true rfl)⟩ rfl hl.1 (hW_ok [.inl r132] (Nat.le_of_ble_eq_true rfl)) dL_law_283 ⟨by show _ ≤ 702299; omega, by show _ ≤ 6995350; omega⟩ rfl (by rw [e145]; rfl) (mX10_tick l D fu S133 b142 _ g146) (fun H locs hV => ?_)
                refine lv_icmp_eq (tgt := 541) hx hb dL_law_286 (by decide) (fun c148 => ?_) (fun c148 => ?_)
                · rw [if_pos c148] at h147
                  exact kL_law_541 C hS0 hX hbl hz fu _ ih S141 x1 x2 x3 _ _ _ _ _ h147 hV (hl_sub hl [0, 1, 2, 3] rfl) ⟨j, ej, by omega, by omega, by omega⟩
                · rw [if_neg c148] at h147
                  refine lv_iconst (v := 0) hx hb dL_law_289 (by decide) ?_
                  exact h_lret hx hb hr hlk hS0 hV h147 hz (by show _ ≤ 702299; omega) (by show _ ≤ 6995350; omega) dL_law_290
              · rw [if_neg c131] at h4
                by_cases c149 : (v2 &&& (15 : Int32)) = 5
                · rw [if_pos c149] at h4
                  refine lv_tableIn (off := 229) (tgt := 291) hx hb dL_law_62 (by rw [c149]; decide) (by rw [c149]; decide) (by rw [c149]; rfl) (by decide) ?_
                  refine hr_aload_n hx hb dL_law_291 rfl (hr_at hl 1 rfl) ?_
                  refine hr_aload_n hx hb dL_law_292 rfl (hr_at hl 0 rfl) ?_
                  refine lv_iload_n hx hb dL_law_293 rfl (hi_at hl 3 rfl) ?_
                  refine lv_iconst (v := 1) hx hb dL_law_294 (by decide) ?_
                  refine lv_iadd hx hb dL_law_295 ?_
                  obtain ⟨v150, g151, h152⟩ := hbind h4; clear h4
                  refine h_sld hx hb hX hbl hbA hV g151 dL_law_296 ?_
                  obtain ⟨b155, g156, h157⟩ := hbind h152; clear h152
                  obtain ⟨_, _, e158, q158⟩ := rcv_inv g156
                  obtain ⟨r153, S154, g159, h160⟩ := hbn2 h157; clear h157
                  refine h_callV (n := 1) (As := [.int v150]) (rest := []) (st1 := [.int r153]) (fr := 7) (lo := 149) (mc := 0) (ms := 0) C.1 hK hV q158 rfl rfl wd624 wd621 wd622 wd623 wd78 ⟨by decide, by decide, by decide⟩ ⟨(Nat.le_of_ble_eq_true rfl), (Nat.le_of_ble_eq_true rfl)⟩ rfl hl.1 (hW_ok [] (Nat.le_of_ble_eq_true rfl)) dL_law_297 ⟨by show _ ≤ 702299; omega, by show _ ≤ 6995350; omega⟩ rfl (by rw [e158]; rfl) (mX9_run l D fu S b155 v150 _ g159) (fun H locs hV => ?_)
                  refine hr_aload_n hx hb dL_law_300 rfl (hr_at hl 2 rfl) ?_
                  refine hr_aload_n hx hb dL_law_301 rfl (hr_at hl 0 rfl) ?_
                  refine lv_iload_n hx hb dL_law_302 rfl (hi_at hl 3 rfl) ?_
                  refine lv_iconst (v := 1) hx hb dL_law_303 (by decide) ?_
                  refine lv_iadd hx hb dL_law_304 ?_
                  obtain ⟨v161, g162, h163⟩ := hbind h160; clear h160
                  refine h_sld hx hb hX hbl hbA hV g162 dL_law_305 ?_
                  obtain ⟨b166, g167, h168⟩ := hbind h163; clear h163
                  obtain ⟨_, _, e169, q169⟩ := rcv_inv g167
                  obtain ⟨r164, S165, g170, h171⟩ := hbn2 h168; clear h168
                  refine h_callV (n := 1) (As := [.int v161]) (rest := [.int r153]) (st1 := [.int r164, .int r153]) (fr := 6) (lo := 118) (mc := 0) (ms := 0) C.1 hK hV q169 rfl rfl wd967 wd964 wd965 wd966 wd83 ⟨by decide, by decide, by decide⟩ ⟨(Nat.le_of_ble_eq_true rfl), (Nat.le_of_ble_eq_true rfl)⟩ rfl hl.1 (hW_ok [.inl r153] (Nat.le_of_ble_eq_true rfl)) dL_law_306 ⟨by show _ ≤ 702299; omega, by show _ ≤ 6995350; omega⟩ rfl (by rw [e169]; rfl) (mX10_run l D fu S154 b166 v161 _ g170) (fun H locs hV => ?_)
                  refine lv_icmp_eq (tgt := 541) hx hb dL_law_309 (by decide) (fun c172 => ?_) (fun c172 => ?_)
                  · rw [if_pos c172] at h171
                    exact kL_law_541 C hS0 hX hbl hz fu _ ih S165 x1 x2 x3 _ _ _ _ _ h171 hV (hl_sub hl [0, 1, 2, 3] rfl) ⟨j, ej, by omega, by omega, by omega⟩
                  · rw [if_neg c172] at h171
                    refine lv_iconst (v := 0) hx hb dL_law_312 (by decide) ?_
                    exact h_lret hx hb hr hlk hS0 hV h171 hz (by show _ ≤ 702299; omega) (by show _ ≤ 6995350; omega) dL_law_313
                · rw [if_neg c149] at h4
                  by_cases c173 : (v2 &&& (15 : Int32)) = 6
                  · rw [if_pos c173] at h4
                    refine lv_tableIn (off := 252) (tgt := 314) hx hb dL_law_62 (by rw [c173]; decide) (by rw [c173]; decide) (by rw [c173]; rfl) (by decide) ?_
                    refine hr_aload_n hx hb dL_law_314 rfl (hr_at hl 1 rfl) ?_
                    refine hr_aload_n hx hb dL_law_315 rfl (hr_at hl 0 rfl) ?_
                    refine lv_iload_n hx hb dL_law_316 rfl (hi_at hl 3 rfl) ?_
                    refine lv_iconst (v := 1) hx hb dL_law_317 (by decide) ?_
                    refine lv_iadd hx hb dL_law_318 ?_
                    obtain ⟨v174, g175, h176⟩ := hbind h4; clear h4
                    refine h_sld hx hb hX hbl hbA hV g175 dL_law_319 ?_
                    obtain ⟨b179, g180, h181⟩ := hbind h176; clear h176
                    obtain ⟨_, _, e182, q182⟩ := rcv_inv g180
                    obtain ⟨r177, S178, g183, h184⟩ := hbn2 h181; clear h181
                    refine h_callV (n := 1) (As := [.int v174]) (rest := []) (st1 := [.int r177]) (fr := 1) (lo := 21) (mc := 0) (ms := 0) C.1 hK hV q182 rfl rfl wd628 wd625 wd626 wd627 wd78 ⟨by decide, by decide, by decide⟩ ⟨(Nat.le_of_ble_eq_true rfl), (Nat.le_of_ble_eq_true rfl)⟩ rfl hl.1 (hW_ok [] (Nat.le_of_ble_eq_true rfl)) dL_law_320 ⟨by show _ ≤ 702299; omega, by show _ ≤ 6995350; omega⟩ rfl (by rw [e182]; rfl) (mX9_state l D fu S b179 v174 _ g183) (fun H locs hV => ?_)
                    refine hr_aload_n hx hb dL_law_323 rfl (hr_at hl 2 rfl) ?_
                    refine hr_aload_n hx hb dL_law_324 rfl (hr_at hl 0 rfl) ?_
                    refine lv_iload_n hx hb dL_law_325 rfl (hi_at hl 3 rfl) ?_
                    refine lv_iconst (v := 1) hx hb dL_law_326 (by decide) ?_
                    refine lv_iadd hx hb dL_law_327 ?_
                    obtain ⟨v185, g186, h187⟩ := hbind h184; clear h184
                    refine h_sld hx hb hX hbl hbA hV g186 dL_law_328 ?_
                    obtain ⟨b190, g191, h192⟩ := hbind h187; clear h187
                    obtain ⟨_, _, e193, q193⟩ := rcv_inv g191
                    obtain ⟨r188, S189, g194, h195⟩ := hbn2 h192; clear h192
                    refine h_callV (n := 1) (As := [.int v185]) (rest := [.int r177]) (st1 := [.int r188, .int r177]) (fr := 2) (lo := 42) (mc := 0) (ms := 0) C.1 hK hV q193 rfl rfl wd972 wd969 wd970 wd971 wd83 ⟨by decide, by decide, by decide⟩ ⟨(Nat.le_of_ble_eq_true rfl), (Nat.le_of_ble_eq_true rfl)⟩ rfl hl.1 (hW_ok [.inl r177] (Nat.le_of_ble_eq_true rfl)) dL_law_329 ⟨by show _ ≤ 702299; omega, by show _ ≤ 6995350; omega⟩ rfl (by rw [e193]; rfl) (mX10_state l D fu S178 b190 v185 _ g194) (fun H locs hV => ?_)
                    refine lv_icmp_eq (tgt := 541) hx hb dL_law_332 (by decide) (fun c196 => ?_) (fun c196 => ?_)
                    · rw [if_pos c196] at h195
                      exact kL_law_541 C hS0 hX hbl hz fu _ ih S189 x1 x2 x3 _ _ _ _ _ h195 hV (hl_sub hl [0, 1, 2, 3] rfl) ⟨j, ej, by omega, by omega, by omega⟩
                    · rw [if_neg c196] at h195
                      refine lv_iconst (v := 0) hx hb dL_law_335 (by decide) ?_
                      exact h_lret hx hb hr hlk hS0 hV h195 hz (by show _ ≤ 702299; omega) (by show _ ≤ 6995350; omega) dL_law_336
                  · rw [if_neg c173] at h4
                    by_cases c197 : (v2 &&& (15 : Int32)) = 7
                    · rw [if_pos c197] at h4
                      refine lv_tableIn (off := 275) (tgt := 337) hx hb dL_law_62 (by rw [c197]; decide) (by rw [c197]; decide) (by rw [c197]; rfl) (by decide) ?_
                      refine hr_aload_n hx hb dL_law_337 rfl (hr_at hl 1 rfl) ?_
                      refine hr_aload_n hx hb dL_law_338 rfl (hr_at hl 0 rfl) ?_
                      refine lv_iload_n hx hb dL_law_339 rfl (hi_at hl 3 rfl) ?_
                      refine lv_iconst (v := 1) hx hb dL_law_340 (by decide) ?_
                      refine lv_iadd hx hb dL_law_341 ?_
                      obtain ⟨v198, g199, h200⟩ := hbind h4; clear h4
                      refine h_sld hx hb hX hbl hbA hV g199 dL_law_342 ?_
                      refine hr_aload_n hx hb dL_law_343 rfl (hr_at hl 0 rfl) ?_
                      refine lv_iload_n hx hb dL_law_344 rfl (hi_at hl 3 rfl) ?_
                      refine lv_iconst (v := 2) hx hb dL_law_345 (by decide) ?_
                      refine lv_iadd hx hb dL_law_346 ?_
                      obtain ⟨v201, g202, h203⟩ := hbind h200; clear h200
                      refine h_sld hx hb hX hbl hbA hV g202 dL_law_347 ?_
                      obtain ⟨b206, g207, h208⟩ := hbind h203; clear h203
                      obtain ⟨_, _, e209, q209⟩ := rcv_inv g207
                      obtain ⟨r204, S205, g210, h211⟩ := hbn2 h208; clear h208
                      refine h_callV (n := 2) (As := [.int v198, .int v201]) (rest := []) (st1 := [.int r204]) (fr := 1) (lo := 21) (mc := 0) (ms := 0) C.1 hK hV q209 rfl rfl wd632 wd629 wd630 wd631 wd78 ⟨by decide, by decide, by decide⟩ ⟨(Nat.le_of_ble_eq_true rfl), (Nat.le_of_ble_eq_true rfl)⟩ rfl hl.1 (hW_ok [] (Nat.le_of_ble_eq_true rfl)) dL_law_348 ⟨by show _ ≤ 702299; omega, by show _ ≤ 6995350; omega⟩ rfl (by rw [e209]; rfl) (mX9_get l D fu S b206 v198 v201 _ g210) (fun H locs hV => ?_)
                      refine hr_aload_n hx hb dL_law_351 rfl (hr_at hl 2 rfl) ?_
                      refine hr_aload_n hx hb dL_law_352 rfl (hr_at hl 0 rfl) ?_
                      refine lv_iload_n hx hb dL_law_353 rfl (hi_at hl 3 rfl) ?_
                      refine lv_iconst (v := 1) hx hb dL_law_354 (by decide) ?_
                      refine lv_iadd hx hb dL_law_355 ?_
                      obtain ⟨v212, g213, h214⟩ := hbind h211; clear h211
                      refine h_sld hx hb hX hbl hbA hV g213 dL_law_356 ?_
                      refine hr_aload_n hx hb dL_law_357 rfl (hr_at hl 0 rfl) ?_
                      refine lv_iload_n hx hb dL_law_358 rfl (hi_at hl 3 rfl) ?_
                      refine lv_iconst (v := 2) hx hb dL_law_359 (by decide) ?_
                      refine lv_iadd hx hb dL_law_360 ?_
                      obtain ⟨v215, g216, h217⟩ := hbind h214; clear h214
                      refine h_sld hx hb hX hbl hbA hV g216 dL_law_361 ?_
                      obtain ⟨b220, g221, h222⟩ := hbind h217; clear h217
                      obtain ⟨_, _, e223, q223⟩ := rcv_inv g221
                      obtain ⟨r218, S219, g224, h225⟩ := hbn2 h222; clear h222
                      refine h_callV (n := 2) (As := [.int v212, .int v215]) (rest := [.int r204]) (st1 := [.int r218, .int r204]) (fr := 2) (lo := 42) (mc := 0) (ms := 0) C.1 hK hV q223 rfl rfl wd976 wd973 wd974 wd975 wd83 ⟨by decide, by decide, by decide⟩ ⟨(Nat.le_of_ble_eq_true rfl), (Nat.le_of_ble_eq_true rfl)⟩ rfl hl.1 (hW_ok [.inl r204] (Nat.le_of_ble_eq_true rfl)) dL_law_362 ⟨by show _ ≤ 702299; omega, by show _ ≤ 6995350; omega⟩ rfl (by rw [e223]; rfl) (mX10_get l D fu S205 b220 v212 v215 _ g224) (fun H locs hV => ?_)
                      refine lv_icmp_eq (tgt := 541) hx hb dL_law_365 (by decide) (fun c226 => ?_) (fun c226 => ?_)
                      · rw [if_pos c226] at h225
                        exact kL_law_541 C hS0 hX hbl hz fu _ ih S219 x1 x2 x3 _ _ _ _ _ h225 hV (hl_sub hl [0, 1, 2, 3] rfl) ⟨j, ej, by omega, by omega, by omega⟩
                      · rw [if_neg c226] at h225
                        refine lv_iconst (v := 0) hx hb dL_law_368 (by decide) ?_
                        exact h_lret hx hb hr hlk hS0 hV h225 hz (by show _ ≤ 702299; omega) (by show _ ≤ 6995350; omega) dL_law_369
                    · rw [if_neg c197] at h4
                      by_cases c227 : (v2 &&& (15 : Int32)) = 8
                      · rw [if_pos c227] at h4
                        refine lv_tableIn (off := 308) (tgt := 370) hx hb dL_law_62 (by rw [c227]; decide) (by rw [c227]; decide) (by rw [c227]; rfl) (by decide) ?_
                        refine hr_aload_n hx hb dL_law_370 rfl (hr_at hl 1 rfl) ?_
                        refine hr_aload_n hx hb dL_law_371 rfl (hr_at hl 0 rfl) ?_
                        refine lv_iload_n hx hb dL_law_372 rfl (hi_at hl 3 rfl) ?_
                        refine lv_iconst (v := 1) hx hb dL_law_373 (by decide) ?_
                        refine lv_iadd hx hb dL_law_374 ?_
                        obtain ⟨v228, g229, h230⟩ := hbind h4; clear h4
                        refine h_sld hx hb hX hbl hbA hV g229 dL_law_375 ?_
                        obtain ⟨b233, g234, h235⟩ := hbind h230; clear h230
                        obtain ⟨_, _, e236, q236⟩ := rcv_inv g234
                        obtain ⟨r231, S232, g237, h238⟩ := hbn2 h235; clear h235
                        refine h_callV (n := 1) (As := [.int v228]) (rest := []) (st1 := [.int r231]) (fr := 2) (lo := 45) (mc := 0) (ms := 0) C.1 hK hV q236 rfl rfl wd637 wd634 wd635 wd636 wd78 ⟨by decide, by decide, by decide⟩ ⟨(Nat.le_of_ble_eq_true rfl), (Nat.le_of_ble_eq_true rfl)⟩ rfl hl.1 (hW_ok [] (Nat.le_of_ble_eq_true rfl)) dL_law_376 ⟨by show _ ≤ 702299; omega, by show _ ≤ 6995350; omega⟩ rfl (by rw [e236]; rfl) (mX9_cancel l D fu S b233 v228 _ g237) (fun H locs hV => ?_)
                        refine hr_aload_n hx hb dL_law_379 rfl (hr_at hl 2 rfl) ?_
                        refine hr_aload_n hx hb dL_law_380 rfl (hr_at hl 0 rfl) ?_
                        refine lv_iload_n hx hb dL_law_381 rfl (hi_at hl 3 rfl) ?_
                        refine lv_iconst (v := 1) hx hb dL_law_382 (by decide) ?_
                        refine lv_iadd hx hb dL_law_383 ?_
                        obtain ⟨v239, g240, h241⟩ := hbind h238; clear h238
                        refine h_sld hx hb hX hbl hbA hV g240 dL_law_384 ?_
                        obtain ⟨b244, g245, h246⟩ := hbind h241; clear h241
                        obtain ⟨_, _, e247, q247⟩ := rcv_inv g245
                        obtain ⟨r242, S243, g248, h249⟩ := hbn2 h246; clear h246
                        refine h_callV (n := 1) (As := [.int v239]) (rest := [.int r231]) (st1 := [.int r242, .int r231]) (fr := 2) (lo := 42) (mc := 0) (ms := 0) C.1 hK hV q247 rfl rfl wd919 wd916 wd917 wd918 wd83 ⟨by decide, by decide, by decide⟩ ⟨(Nat.le_of_ble_eq_true rfl), (Nat.le_of_ble_eq_true rfl)⟩ rfl hl.1 (hW_ok [.inl r231] (Nat.le_of_ble_eq_true rfl)) dL_law_385 ⟨by show _ ≤ 702299; omega, by show _ ≤ 6995350; omega⟩ rfl (by rw [e247]; rfl) (mX10_cancel l D fu S232 b244 v239 _ g248) (fun H locs hV => ?_)
                        refine lv_icmp_eq (tgt := 541) hx hb dL_law_388 (by decide) (fun c250 => ?_) (fun c250 => ?_)
                        · rw [if_pos c250] at h249
                          exact kL_law_541 C hS0 hX hbl hz fu _ ih S243 x1 x2 x3 _ _ _ _ _ h249 hV (hl_sub hl [0, 1, 2, 3] rfl) ⟨j, ej, by omega, by omega, by omega⟩
                        · rw [if_neg c250] at h249
                          refine lv_iconst (v := 0) hx hb dL_law_391 (by decide) ?_
                          exact h_lret hx hb hr hlk hS0 hV h249 hz (by show _ ≤ 702299; omega) (by show _ ≤ 6995350; omega) dL_law_392
                      · rw [if_neg c227] at h4
                        by_cases c251 : (v2 &&& (15 : Int32)) = 9
                        · rw [if_pos c251] at h4
                          refine lv_tableIn (off := 331) (tgt := 393) hx hb dL_law_62 (by rw [c251]; decide) (by rw [c251]; decide) (by rw [c251]; rfl) (by decide) ?_
                          refine hr_aload_n hx hb dL_law_393 rfl (hr_at hl 1 rfl) ?_
                          refine hr_aload_n hx hb dL_law_394 rfl (hr_at hl 0 rfl) ?_
                          refine lv_iload_n hx hb dL_law_395 rfl (hi_at hl 3 rfl) ?_
                          refine lv_iconst (v := 1) hx hb dL_law_396 (by decide) ?_
                          refine lv_iadd hx hb dL_law_397 ?_
                          obtain ⟨v252, g253, h254⟩ := hbind h4; clear h4
                          refine h_sld hx hb hX hbl hbA hV g253 dL_law_398 ?_
                          refine hr_aload_n hx hb dL_law_399 rfl (hr_at hl 0 rfl) ?_
                          refine lv_iload_n hx hb dL_law_400 rfl (hi_at hl 3 rfl) ?_
                          refine lv_iconst (v := 2) hx hb dL_law_401 (by decide) ?_
                          refine lv_iadd hx hb dL_law_402 ?_
                          obtain ⟨v255, g256, h257⟩ := hbind h254; clear h254
                          refine h_sld hx hb hX hbl hbA hV g256 dL_law_403 ?_
                          obtain ⟨b260, g261, h262⟩ := hbind h257; clear h257
                          obtain ⟨_, _, e263, q263⟩ := rcv_inv g261
                          obtain ⟨r258, S259, g264, h265⟩ := hbn2 h262; clear h262
                          refine h_callV (n := 2) (As := [.int v252, .int v255]) (rest := []) (st1 := [.int r258]) (fr := 2) (lo := 45) (mc := 0) (ms := 0) C.1 hK hV q263 rfl rfl wd641 wd638 wd639 wd640 wd78 ⟨by decide, by decide, by decide⟩ ⟨(Nat.le_of_ble_eq_true rfl), (Nat.le_of_ble_eq_true rfl)⟩ rfl hl.1 (hW_ok [] (Nat.le_of_ble_eq_true rfl)) dL_law_404 ⟨by show _ ≤ 702299; omega, by show _ ≤ 6995350; omega⟩ rfl (by rw [e263]; rfl) (mX9_raise l D fu S b260 v252 v255 _ g264) (fun H locs hV => ?_)
                          refine hr_aload_n hx hb dL_law_407 rfl (hr_at hl 2 rfl) ?_
                          refine hr_aload_n hx hb dL_law_408 rfl (hr_at hl 0 rfl) ?_
                          refine lv_iload_n hx hb dL_law_409 rfl (hi_at hl 3 rfl) ?_
                          refine lv_iconst (v := 1) hx hb dL_law_410 (by decide) ?_
                          refine lv_iadd hx hb dL_law_411 ?_
                          obtain ⟨v266, g267, h268⟩ := hbind h265; clear h265
                          refine h_sld hx hb hX hbl hbA hV g267 dL_law_412 ?_
                          refine hr_aload_n hx hb dL_law_413 rfl (hr_at hl 0 rfl) ?_
                          refine lv_iload_n hx hb dL_law_414 rfl (hi_at hl 3 rfl) ?_
                          refine lv_iconst (v := 2) hx hb dL_law_415 (by decide) ?_
                          refine lv_iadd hx hb dL_law_416 ?_
                          obtain ⟨v269, g270, h271⟩ := hbind h268; clear h268
                          refine h_sld hx hb hX hbl hbA hV g270 dL_law_417 ?_
                          obtain ⟨b274, g275, h276⟩ := hbind h271; clear h271
                          obtain ⟨_, _, e277, q277⟩ := rcv_inv g275
                          obtain ⟨r272, S273, g278, h279⟩ := hbn2 h276; clear h276
                          refine h_callV (n := 2) (As := [.int v266, .int v269]) (rest := [.int r258]) (st1 := [.int r272, .int r258]) (fr := 2) (lo := 42) (mc := 0) (ms := 0) C.1 hK hV q277 rfl rfl wd923 wd920 wd921 wd922 wd83 ⟨by decide, by decide, by decide⟩ ⟨(Nat.le_of_ble_eq_true rfl), (Nat.le_of_ble_eq_true rfl)⟩ rfl hl.1 (hW_ok [.inl r258] (Nat.le_of_ble_eq_true rfl)) dL_law_418 ⟨by show _ ≤ 702299; omega, by show _ ≤ 6995350; omega⟩ rfl (by rw [e277]; rfl) (mX10_raise l D fu S259 b274 v266 v269 _ g278) (fun H locs hV => ?_)
                          refine lv_icmp_eq (tgt := 541) hx hb dL_law_421 (by decide) (fun c280 => ?_) (fun c280 => ?_)
                          · rw [if_pos c280] at h279
                            exact kL_law_541 C hS0 hX hbl hz fu _ ih S273 x1 x2 x3 _ _ _ _ _ h279 hV (hl_sub hl [0, 1, 2, 3] rfl) ⟨j, ej, by omega, by omega, by omega⟩
                          · rw [if_neg c280] at h279
                            refine lv_iconst (v := 0) hx hb dL_law_424 (by decide) ?_
                            exact h_lret hx hb hr hlk hS0 hV h279 hz (by show _ ≤ 702299; omega) (by show _ ≤ 6995350; omega) dL_law_425
                        · rw [if_neg c251] at h4
                          by_cases c281 : (v2 &&& (15 : Int32)) = 10
                          · rw [if_pos c281] at h4
                            refine lv_tableIn (off := 364) (tgt := 426) hx hb dL_law_62 (by rw [c281]; decide) (by rw [c281]; decide) (by rw [c281]; rfl) (by decide) ?_
                            refine hr_aload_n hx hb dL_law_426 rfl (hr_at hl 1 rfl) ?_
                            refine hr_aload_n hx hb dL_law_427 rfl (hr_at hl 0 rfl) ?_
                            refine lv_iload_n hx hb dL_law_428 rfl (hi_at hl 3 rfl) ?_
                            refine lv_iconst (v := 1) hx hb dL_law_429 (by decide) ?_
                            refine lv_iadd hx hb dL_law_430 ?_
                            obtain ⟨v282, g283, h284⟩ := hbind h4; clear h4
                            refine h_sld hx hb hX hbl hbA hV g283 dL_law_431 ?_
                            obtain ⟨b287, g288, h289⟩ := hbind h284; clear h284
                            obtain ⟨_, _, e290, q290⟩ := rcv_inv g288
                            obtain ⟨r285, S286, g291, h292⟩ := hbn2 h289; clear h289
                            refine h_callV (n := 1) (As := [.int v282]) (rest := []) (st1 := [.int r285]) (fr := 1) (lo := 22) (mc := 0) (ms := 0) C.1 hK hV q290 rfl rfl wd645 wd642 wd643 wd644 wd78 ⟨by decide, by decide, by decide⟩ ⟨(Nat.le_of_ble_eq_true rfl), (Nat.le_of_ble_eq_true rfl)⟩ rfl hl.1 (hW_ok [] (Nat.le_of_ble_eq_true rfl)) dL_law_432 ⟨by show _ ≤ 702299; omega, by show _ ≤ 6995350; omega⟩ rfl (by rw [e290]; rfl) (mX9_close l D fu S b287 v282 _ g291) (fun H locs hV => ?_)
                            refine hr_aload_n hx hb dL_law_435 rfl (hr_at hl 2 rfl) ?_
                            refine hr_aload_n hx hb dL_law_436 rfl (hr_at hl 0 rfl) ?_
                            refine lv_iload_n hx hb dL_law_437 rfl (hi_at hl 3 rfl) ?_
                            refine lv_iconst (v := 1) hx hb dL_law_438 (by decide) ?_
                            refine lv_iadd hx hb dL_law_439 ?_
                            obtain ⟨v293, g294, h295⟩ := hbind h292; clear h292
                            refine h_sld hx hb hX hbl hbA hV g294 dL_law_440 ?_
                            obtain ⟨b298, g299, h300⟩ := hbind h295; clear h295
                            obtain ⟨_, _, e301, q301⟩ := rcv_inv g299
                            obtain ⟨r296, S297, g302, h303⟩ := hbn2 h300; clear h300
                            refine h_callV (n := 1) (As := [.int v293]) (rest := [.int r285]) (st1 := [.int r296, .int r285]) (fr := 2) (lo := 42) (mc := 0) (ms := 0) C.1 hK hV q301 rfl rfl wd927 wd924 wd925 wd926 wd83 ⟨by decide, by decide, by decide⟩ ⟨(Nat.le_of_ble_eq_true rfl), (Nat.le_of_ble_eq_true rfl)⟩ rfl hl.1 (hW_ok [.inl r285] (Nat.le_of_ble_eq_true rfl)) dL_law_441 ⟨by show _ ≤ 702299; omega, by show _ ≤ 6995350; omega⟩ rfl (by rw [e301]; rfl) (mX10_close l D fu S286 b298 v293 _ g302) (fun H locs hV => ?_)
                            refine lv_icmp_eq (tgt := 541) hx hb dL_law_444 (by decide) (fun c304 => ?_) (fun c304 => ?_)
                            · rw [if_pos c304] at h303
                              exact kL_law_541 C hS0 hX hbl hz fu _ ih S297 x1 x2 x3 _ _ _ _ _ h303 hV (hl_sub hl [0, 1, 2, 3] rfl) ⟨j, ej, by omega, by omega, by omega⟩
                            · rw [if_neg c304] at h303
                              refine lv_iconst (v := 0) hx hb dL_law_447 (by decide) ?_
                              exact h_lret hx hb hr hlk hS0 hV h303 hz (by show _ ≤ 702299; omega) (by show _ ≤ 6995350; omega) dL_law_448
                          · rw [if_neg c281] at h4
                            by_cases c305 : (v2 &&& (15 : Int32)) = 11
                            · rw [if_pos c305] at h4
                              refine lv_tableIn (off := 387) (tgt := 449) hx hb dL_law_62 (by rw [c305]; decide) (by rw [c305]; decide) (by rw [c305]; rfl) (by decide) ?_
                              refine hr_aload_n hx hb dL_law_449 rfl (hr_at hl 1 rfl) ?_
                              obtain ⟨b308, g309, h310⟩ := hbind h4; clear h4
                              obtain ⟨_, _, e311, q311⟩ := rcv_inv g309
                              obtain ⟨r306, S307, g312, h313⟩ := hbn2 h310; clear h310
                              refine h_callV (n := 0) (As := []) (rest := []) (st1 := [.int r306]) (fr := 3) (lo := 65) (mc := 0) (ms := 0) C.1 hK hV q311 rfl rfl wd649 wd646 wd647 wd648 wd78 ⟨by decide, by decide, by decide⟩ ⟨(Nat.le_of_ble_eq_true rfl), (Nat.le_of_ble_eq_true rfl)⟩ rfl hl.1 (hW_ok [] (Nat.le_of_ble_eq_true rfl)) dL_law_450 ⟨by show _ ≤ 702299; omega, by show _ ≤ 6995350; omega⟩ rfl (by rw [e311]; rfl) (mX9_pack l D fu S b308 _ g312) (fun H locs hV => ?_)
                              refine hr_aload_n hx hb dL_law_453 rfl (hr_at hl 2 rfl) ?_
                              obtain ⟨b316, g317, h318⟩ := hbind h313; clear h313
                              obtain ⟨_, _, e319, q319⟩ := rcv_inv g317
                              obtain ⟨r314, S315, g320, h321⟩ := hbn2 h318; clear h318
                              refine h_callV (n := 0) (As := []) (rest := [.int r306]) (st1 := [.int r314, .int r306]) (fr := 2) (lo := 45) (mc := 0) (ms := 0) C.1 hK hV q319 rfl rfl wd931 wd928 wd929 wd930 wd83 ⟨by decide, by decide, by decide⟩ ⟨(Nat.le_of_ble_eq_true rfl), (Nat.le_of_ble_eq_true rfl)⟩ rfl hl.1 (hW_ok [.inl r306] (Nat.le_of_ble_eq_true rfl)) dL_law_454 ⟨by show _ ≤ 702299; omega, by show _ ≤ 6995350; omega⟩ rfl (by rw [e319]; rfl) (mX10_pack l D fu S307 b316 _ g320) (fun H locs hV => ?_)
                              refine lv_icmp_eq (tgt := 541) hx hb dL_law_457 (by decide) (fun c322 => ?_) (fun c322 => ?_)
                              · rw [if_pos c322] at h321
                                exact kL_law_541 C hS0 hX hbl hz fu _ ih S315 x1 x2 x3 _ _ _ _ _ h321 hV (hl_sub hl [0, 1, 2, 3] rfl) ⟨j, ej, by omega, by omega, by omega⟩
                              · rw [if_neg c322] at h321
                                refine lv_iconst (v := 0) hx hb dL_law_460 (by decide) ?_
                                exact h_lret hx hb hr hlk hS0 hV h321 hz (by show _ ≤ 702299; omega) (by show _ ≤ 6995350; omega) dL_law_461
                            · rw [if_neg c305] at h4
                              by_cases c323 : (v2 &&& (15 : Int32)) = 12
                              · rw [if_pos c323] at h4
                                refine lv_tableIn (off := 400) (tgt := 462) hx hb dL_law_62 (by rw [c323]; decide) (by rw [c323]; decide) (by rw [c323]; rfl) (by decide) ?_
                                refine hr_aload_n hx hb dL_law_462 rfl (hr_at hl 1 rfl) ?_
                                refine hr_aload_n hx hb dL_law_463 rfl (hr_at hl 0 rfl) ?_
                                refine lv_iload_n hx hb dL_law_464 rfl (hi_at hl 3 rfl) ?_
                                refine lv_iconst (v := 1) hx hb dL_law_465 (by decide) ?_
                                refine lv_iadd hx hb dL_law_466 ?_
                                obtain ⟨v324, g325, h326⟩ := hbind h4; clear h4
                                refine h_sld hx hb hX hbl hbA hV g325 dL_law_467 ?_
                                obtain ⟨b329, g330, h331⟩ := hbind h326; clear h326
                                obtain ⟨_, _, e332, q332⟩ := rcv_inv g330
                                obtain ⟨r327, S328, g333, h334⟩ := hbn2 h331; clear h331
                                refine h_callV (n := 1) (As := [.int v324]) (rest := []) (st1 := [.int r327]) (fr := 1) (lo := 21) (mc := 0) (ms := 0) C.1 hK hV q332 rfl rfl wd658 wd655 wd656 wd657 wd78 ⟨by decide, by decide, by decide⟩ ⟨(Nat.le_of_ble_eq_true rfl), (Nat.le_of_ble_eq_true rfl)⟩ rfl hl.1 (hW_ok [] (Nat.le_of_ble_eq_true rfl)) dL_law_468 ⟨by show _ ≤ 702299; omega, by show _ ≤ 6995350; omega⟩ rfl (by rw [e332]; rfl) (mX9_word l D fu S b329 v324 _ g333) (fun H locs hV => ?_)
                                refine hr_aload_n hx hb dL_law_471 rfl (hr_at hl 2 rfl) ?_
                                refine hr_aload_n hx hb dL_law_472 rfl (hr_at hl 0 rfl) ?_
                                refine lv_iload_n hx hb dL_law_473 rfl (hi_at hl 3 rfl) ?_
                                refine lv_iconst (v := 1) hx hb dL_law_474 (by decide) ?_
                                refine lv_iadd hx hb dL_law_475 ?_
                                obtain ⟨v335, g336, h337⟩ := hbind h334; clear h334
                                refine h_sld hx hb hX hbl hbA hV g336 dL_law_476 ?_
                                obtain ⟨b340, g341, h342⟩ := hbind h337; clear h337
                                obtain ⟨_, _, e343, q343⟩ := rcv_inv g341
                                obtain ⟨r338, S339, g344, h345⟩ := hbn2 h342; clear h342
                                refine h_callV (n := 1) (As := [.int v335]) (rest := [.int r327]) (st1 := [.int r338, .int r327]) (fr := 0) (lo := 0) (mc := 0) (ms := 0) C.1 hK hV q343 rfl rfl wd980 wd977 wd978 wd979 wd83 ⟨by decide, by decide, by decide⟩ ⟨(Nat.le_of_ble_eq_true rfl), (Nat.le_of_ble_eq_true rfl)⟩ rfl hl.1 (hW_ok [.inl r327] (Nat.le_of_ble_eq_true rfl)) dL_law_477 ⟨by show _ ≤ 702299; omega, by show _ ≤ 6995350; omega⟩ rfl (by rw [e343]; rfl) (mX10_word l D fu S328 b340 v335 _ g344) (fun H locs hV => ?_)
                                refine lv_icmp_eq (tgt := 541) hx hb dL_law_480 (by decide) (fun c346 => ?_) (fun c346 => ?_)
                                · rw [if_pos c346] at h345
                                  exact kL_law_541 C hS0 hX hbl hz fu _ ih S339 x1 x2 x3 _ _ _ _ _ h345 hV (hl_sub hl [0, 1, 2, 3] rfl) ⟨j, ej, by omega, by omega, by omega⟩
                                · rw [if_neg c346] at h345
                                  refine lv_iconst (v := 0) hx hb dL_law_483 (by decide) ?_
                                  exact h_lret hx hb hr hlk hS0 hV h345 hz (by show _ ≤ 702299; omega) (by show _ ≤ 6995350; omega) dL_law_484
                              · rw [if_neg c323] at h4
                                by_cases c347 : (v2 &&& (15 : Int32)) = 13
                                · rw [if_pos c347] at h4
                                  refine lv_tableIn (off := 423) (tgt := 485) hx hb dL_law_62 (by rw [c347]; decide) (by rw [c347]; decide) (by rw [c347]; rfl) (by decide) ?_
                                  refine hr_aload_n hx hb dL_law_485 rfl (hr_at hl 1 rfl) ?_
                                  refine hr_aload_n hx hb dL_law_486 rfl (hr_at hl 0 rfl) ?_
                                  refine lv_iload_n hx hb dL_law_487 rfl (hi_at hl 3 rfl) ?_
                                  refine lv_iconst (v := 1) hx hb dL_law_488 (by decide) ?_
                                  refine lv_iadd hx hb dL_law_489 ?_
                                  obtain ⟨v348, g349, h350⟩ := hbind h4; clear h4
                                  refine h_sld hx hb hX hbl hbA hV g349 dL_law_490 ?_
                                  refine hr_aload_n hx hb dL_law_491 rfl (hr_at hl 0 rfl) ?_
                                  refine lv_iload_n hx hb dL_law_492 rfl (hi_at hl 3 rfl) ?_
                                  refine lv_iconst (v := 2) hx hb dL_law_493 (by decide) ?_
                                  refine lv_iadd hx hb dL_law_494 ?_
                                  obtain ⟨v351, g352, h353⟩ := hbind h350; clear h350
                                  refine h_sld hx hb hX hbl hbA hV g352 dL_law_495 ?_
                                  obtain ⟨b356, g357, h358⟩ := hbind h353; clear h353
                                  obtain ⟨_, _, e359, q359⟩ := rcv_inv g357
                                  obtain ⟨r354, S355, g360, h361⟩ := hbn2 h358; clear h358
                                  refine h_callV (n := 2) (As := [.int v348, .int v351]) (rest := []) (st1 := [.int r354]) (fr := 1) (lo := 23) (mc := 0) (ms := 0) C.1 hK hV q359 rfl rfl wd662 wd659 wd660 wd661 wd78 ⟨by decide, by decide, by decide⟩ ⟨(Nat.le_of_ble_eq_true rfl), (Nat.le_of_ble_eq_true rfl)⟩ rfl hl.1 (hW_ok [] (Nat.le_of_ble_eq_true rfl)) dL_law_496 ⟨by show _ ≤ 702299; omega, by show _ ≤ 6995350; omega⟩ rfl (by rw [e359]; rfl) (mX9_job l D fu S b356 v348 v351 _ g360) (fun H locs hV => ?_)
                                  refine hr_aload_n hx hb dL_law_499 rfl (hr_at hl 2 rfl) ?_
                                  refine hr_aload_n hx hb dL_law_500 rfl (hr_at hl 0 rfl) ?_
                                  refine lv_iload_n hx hb dL_law_501 rfl (hi_at hl 3 rfl) ?_
                                  refine lv_iconst (v := 1) hx hb dL_law_502 (by decide) ?_
                                  refine lv_iadd hx hb dL_law_503 ?_
                                  obtain ⟨v362, g363, h364⟩ := hbind h361; clear h361
                                  refine h_sld hx hb hX hbl hbA hV g363 dL_law_504 ?_
                                  refine hr_aload_n hx hb dL_law_505 rfl (hr_at hl 0 rfl) ?_
                                  refine lv_iload_n hx hb dL_law_506 rfl (hi_at hl 3 rfl) ?_
                                  refine lv_iconst (v := 2) hx hb dL_law_507 (by decide) ?_
                                  refine lv_iadd hx hb dL_law_508 ?_
                                  obtain ⟨v365, g366, h367⟩ := hbind h364; clear h364
                                  refine h_sld hx hb hX hbl hbA hV g366 dL_law_509 ?_
                                  obtain ⟨b370, g371, h372⟩ := hbind h367; clear h367
                                  obtain ⟨_, _, e373, q373⟩ := rcv_inv g371
                                  obtain ⟨r368, S369, g374, h375⟩ := hbn2 h372; clear h372
                                  refine h_callV (n := 2) (As := [.int v362, .int v365]) (rest := [.int r354]) (st1 := [.int r368, .int r354]) (fr := 2) (lo := 42) (mc := 0) (ms := 0) C.1 hK hV q373 rfl rfl wd984 wd981 wd982 wd983 wd83 ⟨by decide, by decide, by decide⟩ ⟨(Nat.le_of_ble_eq_true rfl), (Nat.le_of_ble_eq_true rfl)⟩ rfl hl.1 (hW_ok [.inl r354] (Nat.le_of_ble_eq_true rfl)) dL_law_510 ⟨by show _ ≤ 702299; omega, by show _ ≤ 6995350; omega⟩ rfl (by rw [e373]; rfl) (mX10_job l D fu S355 b370 v362 v365 _ g374) (fun H locs hV => ?_)
                                  refine lv_icmp_eq (tgt := 541) hx hb dL_law_513 (by decide) (fun c376 => ?_) (fun c376 => ?_)
                                  · rw [if_pos c376] at h375
                                    exact kL_law_541 C hS0 hX hbl hz fu _ ih S369 x1 x2 x3 _ _ _ _ _ h375 hV (hl_sub hl [0, 1, 2, 3] rfl) ⟨j, ej, by omega, by omega, by omega⟩
                                  · rw [if_neg c376] at h375
                                    refine lv_iconst (v := 0) hx hb dL_law_516 (by decide) ?_
                                    exact h_lret hx hb hr hlk hS0 hV h375 hz (by show _ ≤ 702299; omega) (by show _ ≤ 6995350; omega) dL_law_517
                                · rw [if_neg c347] at h4
                                  by_cases c377 : (v2 &&& (15 : Int32)) = 14
                                  · rw [if_pos c377] at h4
                                    refine lv_tableIn (off := 456) (tgt := 518) hx hb dL_law_62 (by rw [c377]; decide) (by rw [c377]; decide) (by rw [c377]; rfl) (by decide) ?_
                                    refine hr_aload_n hx hb dL_law_518 rfl (hr_at hl 1 rfl) ?_
                                    refine hr_aload_n hx hb dL_law_519 rfl (hr_at hl 0 rfl) ?_
                                    refine lv_iload_n hx hb dL_law_520 rfl (hi_at hl 3 rfl) ?_
                                    refine lv_iconst (v := 1) hx hb dL_law_521 (by decide) ?_
                                    refine lv_iadd hx hb dL_law_522 ?_
                                    obtain ⟨v378, g379, h380⟩ := hbind h4; clear h4
                                    refine h_sld hx hb hX hbl hbA hV g379 dL_law_523 ?_
                                    obtain ⟨b383, g384, h385⟩ := hbind h380; clear h380
                                    obtain ⟨_, _, e386, q386⟩ := rcv_inv g384
                                    obtain ⟨r381, S382, g387, h388⟩ := hbn2 h385; clear h385
                                    refine h_callV (n := 1) (As := [.int v378]) (rest := []) (st1 := [.int r381]) (fr := 3) (lo := 64) (mc := 0) (ms := 0) C.1 hK hV q386 rfl rfl wd670 wd667 wd668 wd669 wd78 ⟨by decide, by decide, by decide⟩ ⟨(Nat.le_of_ble_eq_true rfl), (Nat.le_of_ble_eq_true rfl)⟩ rfl hl.1 (hW_ok [] (Nat.le_of_ble_eq_true rfl)) dL_law_524 ⟨by show _ ≤ 702299; omega, by show _ ≤ 6995350; omega⟩ rfl (by rw [e386]; rfl) (mX9_count l D fu S b383 v378 _ g387) (fun H locs hV => ?_)
                                    refine hr_aload_n hx hb dL_law_527 rfl (hr_at hl 2 rfl) ?_
                                    refine hr_aload_n hx hb dL_law_528 rfl (hr_at hl 0 rfl) ?_
                                    refine lv_iload_n hx hb dL_law_529 rfl (hi_at hl 3 rfl) ?_
                                    refine lv_iconst (v := 1) hx hb dL_law_530 (by decide) ?_
                                    refine lv_iadd hx hb dL_law_531 ?_
                                    obtain ⟨v389, g390, h391⟩ := hbind h388; clear h388
                                    refine h_sld hx hb hX hbl hbA hV g390 dL_law_532 ?_
                                    obtain ⟨b394, g395, h396⟩ := hbind h391; clear h391
                                    obtain ⟨_, _, e397, q397⟩ := rcv_inv g395
                                    obtain ⟨r392, S393, g398, h399⟩ := hbn2 h396; clear h396
                                    refine h_callV (n := 1) (As := [.int v389]) (rest := [.int r381]) (st1 := [.int r392, .int r381]) (fr := 3) (lo := 72) (mc := 0) (ms := 0) C.1 hK hV q397 rfl rfl wd992 wd989 wd990 wd991 wd83 ⟨by decide, by decide, by decide⟩ ⟨(Nat.le_of_ble_eq_true rfl), (Nat.le_of_ble_eq_true rfl)⟩ rfl hl.1 (hW_ok [.inl r381] (Nat.le_of_ble_eq_true rfl)) dL_law_533 ⟨by show _ ≤ 702299; omega, by show _ ≤ 6995350; omega⟩ rfl (by rw [e397]; rfl) (mX10_count l D fu S382 b394 v389 _ g398) (fun H locs hV => ?_)
                                    refine lv_icmp_eq (tgt := 541) hx hb dL_law_536 (by decide) (fun c400 => ?_) (fun c400 => ?_)
                                    · rw [if_pos c400] at h399
                                      exact kL_law_541 C hS0 hX hbl hz fu _ ih S393 x1 x2 x3 _ _ _ _ _ h399 hV (hl_sub hl [0, 1, 2, 3] rfl) ⟨j, ej, by omega, by omega, by omega⟩
                                    · rw [if_neg c400] at h399
                                      refine lv_iconst (v := 0) hx hb dL_law_539 (by decide) ?_
                                      exact h_lret hx hb hr hlk hS0 hV h399 hz (by show _ ≤ 702299; omega) (by show _ ≤ 6995350; omega) dL_law_540
                                  · rw [if_neg c377] at h4
                                    have ec5 : ((v2 &&& (15 : Int32))).toInt ≠ 0 := h_tinj (k := 0) c5
                                    have ec41 : ((v2 &&& (15 : Int32))).toInt ≠ 1 := h_tinj (k := 1) c41
                                    have ec77 : ((v2 &&& (15 : Int32))).toInt ≠ 2 := h_tinj (k := 2) c77
                                    have ec107 : ((v2 &&& (15 : Int32))).toInt ≠ 3 := h_tinj (k := 3) c107
                                    have ec131 : ((v2 &&& (15 : Int32))).toInt ≠ 4 := h_tinj (k := 4) c131
                                    have ec149 : ((v2 &&& (15 : Int32))).toInt ≠ 5 := h_tinj (k := 5) c149
                                    have ec173 : ((v2 &&& (15 : Int32))).toInt ≠ 6 := h_tinj (k := 6) c173
                                    have ec197 : ((v2 &&& (15 : Int32))).toInt ≠ 7 := h_tinj (k := 7) c197
                                    have ec227 : ((v2 &&& (15 : Int32))).toInt ≠ 8 := h_tinj (k := 8) c227
                                    have ec251 : ((v2 &&& (15 : Int32))).toInt ≠ 9 := h_tinj (k := 9) c251
                                    have ec281 : ((v2 &&& (15 : Int32))).toInt ≠ 10 := h_tinj (k := 10) c281
                                    have ec305 : ((v2 &&& (15 : Int32))).toInt ≠ 11 := h_tinj (k := 11) c305
                                    have ec323 : ((v2 &&& (15 : Int32))).toInt ≠ 12 := h_tinj (k := 12) c323
                                    have ec347 : ((v2 &&& (15 : Int32))).toInt ≠ 13 := h_tinj (k := 13) c347
                                    have ec377 : ((v2 &&& (15 : Int32))).toInt ≠ 14 := h_tinj (k := 14) c377
                                    refine lv_tableOut (tgt := 541) hx hb dL_law_62 (by omega) (by decide) ?_
                                    exact kL_law_541 C hS0 hX hbl hz fu _ ih S x1 x2 x3 _ _ _ _ _ h4 hV (hl_sub hl [0, 1, 2, 3] rfl) ⟨j, ej, by omega, by omega, by omega⟩
def fL_law (xs : Nat → Int32) (L : Nat) (fu : Nat) (S : hS) : Option (Int32 × hS) := (cl xs L (0 : Int32)).bind fun v1 => (cl xs L (1 : Int32)).bind fun v4 => (cl xs L (2 : Int32)).bind fun v7 => bn2 (fX9_init fu (nO S 8) S.2 v1 v4 v7) fun _ S11 => (cl xs L (0 : Int32)).bind fun v14 => (cl xs L (1 : Int32)).bind fun v17 => (cl xs L (2 : Int32)).bind fun v20 => bn2 (fX10_init fu (nO S11 9) S11.2 v14 v17 v20) fun _ S24 => fL_law_48 xs L fu fu S24 (some S.2) (some S11.2) (3 : Int32)
set_option maxHeartbeats 4000000 in
set_option maxRecDepth 100000 in
theorem kL_law_0 {p : Program} {l : Launch} {e : Env} {s : State} {m : MethodId} {below : List Frame} {meth : Method} {c : Code} {D : hD} {b L : Nat} {xs : Nat → Int32} {S0 : hS} {z : Int32 × hS} (C : hCx p m c cL_law 4 s #[Value.ref b] RL meth (some .boolean) D) (hS0 : S0 = (fun _ => none, s.heap.size)) (hX : va_X b L xs s s.heap) (hbl : b < s.heap.size) (hz : z.1 = 1) (hL : L ≤ 2051) (fu : Nat) : ∀ (S : hS) (H : Heap) (locs : List Loc) (ls : Array Slot), fL_law xs L fu S = some z → h_V D (h_A S0) s S H locs → hl_has ls 4 [(0, .inr (some b))] → W p l e room_1 s m #[Value.ref b] below meth c H locs 0 0 (lw_Z below #[Value.ref b] s) (F0 m 0 ls []) := by
  obtain ⟨-, hx, hb, hml, hown, hr, hlk, hK, hts⟩ := id C
  have hbA : ¬ h_A S0 b := by rw [hS0]; exact h_A0 hbl
  intro S H locs ls h hV hl
  unfold fL_law at h
  refine h_new (ci := 8) (ty := tyX9) hx hb hts hK uwX9 tyX9_ok hown (hts _ wd91) (hts _ wd92) (hts _ wd78) rfl rfl hV (Nat.le_of_ble_eq_true rfl) (Nat.le_of_ble_eq_true rfl) dL_law_0 (fun H hV => ?_)
  refine hr_dup hx hb dL_law_3 ?_
  refine hr_aload_n hx hb dL_law_4 rfl (hr_at hl 0 rfl) ?_
  refine lv_iconst (v := 0) hx hb dL_law_5 (by decide) ?_
  obtain ⟨v1, g2, h3⟩ := hbind h; clear h
  refine h_callSX (n := 2) (As := [va_rf (some b), .int (0 : Int32)]) (rest := [va_rf (some S.2), va_rf (some S.2)]) (st1 := [.int v1, va_rf (some S.2), va_rf (some S.2)]) (fr := 0) (lo := 0) (mc := 0) (ms := 0) C.1 hV wd693 wd691 wd692 wd77 ⟨by decide, by decide, by decide⟩ ⟨(Nat.le_of_ble_eq_true rfl), (Nat.le_of_ble_eq_true rfl)⟩ rfl hl.1 (hW_ok [.inr (some S.2), .inr (some S.2)] (Nat.le_of_ble_eq_true rfl)) dL_law_6 ⟨by show _ ≤ 702299; omega, by show _ ≤ 6995350; omega⟩ rfl rfl (h_preX hK hV hX hbl hbA) (mL_cell l D (nO S 8) b L xs (0 : Int32) _ g2) (fun H locs hV => ?_)
  refine hr_aload_n hx hb dL_law_9 rfl (hr_at hl 0 rfl) ?_
  refine lv_iconst (v := 1) hx hb dL_law_10 (by decide) ?_
  obtain ⟨v4, g5, h6⟩ := hbind h3; clear h3
  refine h_callSX (n := 2) (As := [va_rf (some b), .int (1 : Int32)]) (rest := [.int v1, va_rf (some S.2), va_rf (some S.2)]) (st1 := [.int v4, .int v1, va_rf (some S.2), va_rf (some S.2)]) (fr := 0) (lo := 0) (mc := 0) (ms := 0) C.1 hV wd693 wd691 wd692 wd77 ⟨by decide, by decide, by decide⟩ ⟨(Nat.le_of_ble_eq_true rfl), (Nat.le_of_ble_eq_true rfl)⟩ rfl hl.1 (hW_ok [.inl v1, .inr (some S.2), .inr (some S.2)] (Nat.le_of_ble_eq_true rfl)) dL_law_11 ⟨by show _ ≤ 702299; omega, by show _ ≤ 6995350; omega⟩ rfl rfl (h_preX hK hV hX hbl hbA) (mL_cell l D (nO S 8) b L xs (1 : Int32) _ g5) (fun H locs hV => ?_)
  refine hr_aload_n hx hb dL_law_14 rfl (hr_at hl 0 rfl) ?_
  refine lv_iconst (v := 2) hx hb dL_law_15 (by decide) ?_
  obtain ⟨v7, g8, h9⟩ := hbind h6; clear h6
  refine h_callSX (n := 2) (As := [va_rf (some b), .int (2 : Int32)]) (rest := [.int v4, .int v1, va_rf (some S.2), va_rf (some S.2)]) (st1 := [.int v7, .int v4, .int v1, va_rf (some S.2), va_rf (some S.2)]) (fr := 0) (lo := 0) (mc := 0) (ms := 0) C.1 hV wd693 wd691 wd692 wd77 ⟨by decide, by decide, by decide⟩ ⟨(Nat.le_of_ble_eq_true rfl), (Nat.le_of_ble_eq_true rfl)⟩ rfl hl.1 (hW_ok [.inl v4, .inl v1, .inr (some S.2), .inr (some S.2)] (Nat.le_of_ble_eq_true rfl)) dL_law_16 ⟨by show _ ≤ 702299; omega, by show _ ≤ 6995350; omega⟩ rfl rfl (h_preX hK hV hX hbl hbA) (mL_cell l D (nO S 8) b L xs (2 : Int32) _ g8) (fun H locs hV => ?_)
  obtain ⟨r10, S11, g12, h13⟩ := hbn2 h9; clear h9
  refine h_callI (b := S.2) (n := 3) (As := [.int v1, .int v4, .int v7]) (rest := [va_rf (some S.2)]) (st1 := [va_rf (some S.2)]) (fr := 3) (lo := 53) (mc := 5) (ms := 3030) C.1 hK hV wd95 wd93 wd94 wd78 rfl ⟨by decide, by decide, by decide⟩ ⟨(Nat.le_of_ble_eq_true rfl), (Nat.le_of_ble_eq_true rfl)⟩ rfl hl.1 (hW_ok [.inr (some S.2)] (Nat.le_of_ble_eq_true rfl)) dL_law_19 ⟨by show _ ≤ 702299; omega, by show _ ≤ 6995350; omega⟩ rfl rfl (mX9_init l D fu (nO S 8) S.2 v1 v4 v7 _ g12) (fun H locs hV => ?_)
  refine h_astore_n (tl' := [(1, .inr (some S.2)), (0, .inr (some b))]) hx hb dL_law_22 rfl hl (by decide) rfl (fun ls hl => ?_)
  refine h_new (ci := 9) (ty := tyX10) hx hb hts hK uwX10 tyX10_ok hown (hts _ wd694) (hts _ wd695) (hts _ wd83) rfl rfl hV (Nat.le_of_ble_eq_true rfl) (Nat.le_of_ble_eq_true rfl) dL_law_23 (fun H hV => ?_)
  refine hr_dup hx hb dL_law_26 ?_
  refine hr_aload_n hx hb dL_law_27 rfl (hr_at hl 1 rfl) ?_
  refine lv_iconst (v := 0) hx hb dL_law_28 (by decide) ?_
  obtain ⟨v14, g15, h16⟩ := hbind h13; clear h13
  refine h_callSX (n := 2) (As := [va_rf (some b), .int (0 : Int32)]) (rest := [va_rf (some S11.2), va_rf (some S11.2)]) (st1 := [.int v14, va_rf (some S11.2), va_rf (some S11.2)]) (fr := 0) (lo := 0) (mc := 0) (ms := 0) C.1 hV wd693 wd691 wd692 wd77 ⟨by decide, by decide, by decide⟩ ⟨(Nat.le_of_ble_eq_true rfl), (Nat.le_of_ble_eq_true rfl)⟩ rfl hl.1 (hW_ok [.inr (some S11.2), .inr (some S11.2)] (Nat.le_of_ble_eq_true rfl)) dL_law_29 ⟨by show _ ≤ 702299; omega, by show _ ≤ 6995350; omega⟩ rfl rfl (h_preX hK hV hX hbl hbA) (mL_cell l D (nO S11 9) b L xs (0 : Int32) _ g15) (fun H locs hV => ?_)
  refine hr_aload_n hx hb dL_law_32 rfl (hr_at hl 1 rfl) ?_
  refine lv_iconst (v := 1) hx hb dL_law_33 (by decide) ?_
  obtain ⟨v17, g18, h19⟩ := hbind h16; clear h16
  refine h_callSX (n := 2) (As := [va_rf (some b), .int (1 : Int32)]) (rest := [.int v14, va_rf (some S11.2), va_rf (some S11.2)]) (st1 := [.int v17, .int v14, va_rf (some S11.2), va_rf (some S11.2)]) (fr := 0) (lo := 0) (mc := 0) (ms := 0) C.1 hV wd693 wd691 wd692 wd77 ⟨by decide, by decide, by decide⟩ ⟨(Nat.le_of_ble_eq_true rfl), (Nat.le_of_ble_eq_true rfl)⟩ rfl hl.1 (hW_ok [.inl v14, .inr (some S11.2), .inr (some S11.2)] (Nat.le_of_ble_eq_true rfl)) dL_law_34 ⟨by show _ ≤ 702299; omega, by show _ ≤ 6995350; omega⟩ rfl rfl (h_preX hK hV hX hbl hbA) (mL_cell l D (nO S11 9) b L xs (1 : Int32) _ g18) (fun H locs hV => ?_)
  refine hr_aload_n hx hb dL_law_37 rfl (hr_at hl 1 rfl) ?_
  refine lv_iconst (v := 2) hx hb dL_law_38 (by decide) ?_
  obtain ⟨v20, g21, h22⟩ := hbind h19; clear h19
  refine h_callSX (n := 2) (As := [va_rf (some b), .int (2 : Int32)]) (rest := [.int v17, .int v14, va_rf (some S11.2), va_rf (some S11.2)]) (st1 := [.int v20, .int v17, .int v14, va_rf (some S11.2), va_rf (some S11.2)]) (fr := 0) (lo := 0) (mc := 0) (ms := 0) C.1 hV wd693 wd691 wd692 wd77 ⟨by decide, by decide, by decide⟩ ⟨(Nat.le_of_ble_eq_true rfl), (Nat.le_of_ble_eq_true rfl)⟩ rfl hl.1 (hW_ok [.inl v17, .inl v14, .inr (some S11.2), .inr (some S11.2)] (Nat.le_of_ble_eq_true rfl)) dL_law_39 ⟨by show _ ≤ 702299; omega, by show _ ≤ 6995350; omega⟩ rfl rfl (h_preX hK hV hX hbl hbA) (mL_cell l D (nO S11 9) b L xs (2 : Int32) _ g21) (fun H locs hV => ?_)
  obtain ⟨r23, S24, g25, h26⟩ := hbn2 h22; clear h22
  refine h_callI (b := S11.2) (n := 3) (As := [.int v14, .int v17, .int v20]) (rest := [va_rf (some S11.2)]) (st1 := [va_rf (some S11.2)]) (fr := 1) (lo := 15) (mc := 14) (ms := 4504) C.1 hK hV wd698 wd696 wd697 wd83 rfl ⟨by decide, by decide, by decide⟩ ⟨(Nat.le_of_ble_eq_true rfl), (Nat.le_of_ble_eq_true rfl)⟩ rfl hl.1 (hW_ok [.inr (some S11.2)] (Nat.le_of_ble_eq_true rfl)) dL_law_42 ⟨by show _ ≤ 702299; omega, by show _ ≤ 6995350; omega⟩ rfl rfl (mX10_init l D fu (nO S11 9) S11.2 v14 v17 v20 _ g25) (fun H locs hV => ?_)
  refine h_astore_n (tl' := [(2, .inr (some S11.2)), (1, .inr (some S.2)), (0, .inr (some b))]) hx hb dL_law_45 rfl hl (by decide) rfl (fun ls hl => ?_)
  refine lv_iconst (v := 3) hx hb dL_law_46 (by decide) ?_
  refine h_istore_n (tl' := [(3, .inl (3 : Int32)), (2, .inr (some S11.2)), (1, .inr (some S.2)), (0, .inr (some b))]) hx hb dL_law_47 rfl hl (by decide) rfl (fun ls hl => ?_)
  exact kL_law_48 C hS0 hX hbl hz hL fu fu S24 (some S.2) (some S11.2) (3 : Int32) _ _ _ _ _ h26 hV (hl_sub hl [3, 2, 1, 0] rfl) ⟨3, rfl, by omega, by show _ ≤ _; omega, by show _ ≤ _; omega⟩
