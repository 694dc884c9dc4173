/-! QUICK on both sides -/
/-- words, stacked ranges, l, h, s, k, over -/
abbrev qSta : Type := (Nat → Int32) × Nat × Nat × Nat × Nat × Nat × Nat
def qRng (f : Nat) (w : Nat → Int32) (t a b : Nat) : qSta := (sw w (f + (a + b) / 2) (f + b), t, a, b, a, a, 0)
def qPop (f bf : Nat) (w : Nat → Int32) (t : Nat) : qSta := if t = 0 then (w, 0, 0, 0, 0, 0, 1) else qRng f w (t - 1) (w (bf + 2 * (t - 1))).toNatClampNeg (w (bf + 2 * (t - 1) + 1)).toNatClampNeg
def qPsh (bf : Nat) (w : Nat → Int32) (t a b : Nat) : Nat → Int32 := upd (upd w (bf + 2 * t) (nI a)) (bf + 2 * t + 1) (nI b)
def qEnd (f bf : Nat) (w : Nat → Int32) (t l h s : Nat) : qSta :=
  if s - l ≤ h - s then
    (if s + 1 < h then (if l + 1 < s then qRng f (qPsh bf w t (s + 1) h) (t + 1) l (s - 1) else qPop f bf (qPsh bf w t (s + 1) h) (t + 1)) else qPop f bf w t)
  else
    (if l + 1 < s then (if s + 1 < h then qRng f (qPsh bf w t l (s - 1)) (t + 1) (s + 1) h else qPop f bf (qPsh bf w t l (s - 1)) (t + 1)) else qPop f bf w t)
def qSt1 (f bf : Nat) (w : Nat → Int32) (t l h s k : Nat) : qSta := if k + 1 < h then (w, t, l, h, s, k + 1, 0) else qEnd f bf (sw w (f + s) (f + h)) t l h s
def qStp (f bf : Nat) (w : Nat → Int32) (t l h s k : Nat) : qSta := if w (f + h) ≤ w (f + k) then qSt1 f bf w t l h s k else qSt1 f bf (sw w (f + k) (f + s)) t l h (s + 1) k
/-- the stack: range i begins and ends in the job, and is small enough for its depth -/
def qStk (bf n : Nat) (w : Nat → Int32) (t : Nat) : Prop := ∀ i, i < t → ∃ a b, w (bf + 2 * i) = nI a ∧ w (bf + 2 * i + 1) = nI b ∧ a < b ∧ b < n ∧ (b - a + 1) * 2 ^ i ≤ n
def qIv (bf n : Nat) (w : Nat → Int32) (t l h s k : Nat) : Prop := l < h ∧ h < n ∧ l ≤ s ∧ s ≤ k ∧ k < h ∧ n ≤ 1000 ∧ (h - l + 1) * 2 ^ t ≤ n ∧ qStk bf n w t
theorem q_deep {c t n : Nat} (hc : 2 ≤ c) (h : c * 2 ^ t ≤ n) (hn : n ≤ 1000) : t ≤ 8 := by
  apply Nat.not_lt.mp
  intro ht
  have h1 : 2 ^ 9 ≤ 2 ^ t := Nat.pow_le_pow_right (by omega) (by omega)
  have h2 : 2 * 2 ^ t ≤ c * 2 ^ t := Nat.mul_le_mul_right _ hc
  omega
theorem sw_o {w : Nat → Int32} {a b q : Nat} (h1 : q ≠ a) (h2 : q ≠ b) : sw w a b q = w q := by simp [sw, upd, h1, h2]
theorem qStk_sw {f bf n t a b : Nat} {w : Nat → Int32} (h : qStk bf n w t) (hd : f + n ≤ bf ∨ bf + 24 ≤ f) (ht : 2 * t ≤ 24) (ha : a < n) (hb : b < n) : qStk bf n (sw w (f + a) (f + b)) t := by
  intro i hi
  obtain ⟨x, y, h1, h2, h3⟩ := h i hi
  exact ⟨x, y, by rw [sw_o (by omega) (by omega)]; exact h1, by rw [sw_o (by omega) (by omega)]; exact h2, h3⟩
theorem qStk_psh {bf n t a b : Nat} {w : Nat → Int32} (h : qStk bf n w t) (h1 : a < b) (h2 : b < n) (h3 : (b - a + 1) * 2 ^ t ≤ n) : qStk bf n (qPsh bf w t a b) (t + 1) := by
  intro i hi
  by_cases c : i = t
  · subst c
    refine ⟨a, b, ?_, ?_, h1, h2, h3⟩
    · simp [qPsh, upd]
    · simp [qPsh, upd]
  · obtain ⟨x, y, g1, g2, g3⟩ := h i (by omega)
    refine ⟨x, y, ?_, ?_, g3⟩
    · simp only [qPsh, upd]; rw [if_neg (by omega), if_neg (by omega)]; exact g1
    · simp only [qPsh, upd]; rw [if_neg (by omega), if_neg (by omega)]; exact g2
theorem qStk_less {bf n t t' : Nat} {w : Nat → Int32} (h : qStk bf n w t) (ht : t' ≤ t) : qStk bf n w t' := fun i hi => h i (by omega)
theorem qRng_iv {f bf n t a b : Nat} {w : Nat → Int32} (h1 : a < b) (h2 : b < n) (hn : n ≤ 1000) (h3 : (b - a + 1) * 2 ^ t ≤ n) (hs : qStk bf n w t) (hd : f + n ≤ bf ∨ bf + 24 ≤ f) : qIv bf n (qRng f w t a b).1 (qRng f w t a b).2.1 (qRng f w t a b).2.2.1 (qRng f w t a b).2.2.2.1 (qRng f w t a b).2.2.2.2.1 (qRng f w t a b).2.2.2.2.2.1 := by
  have := q_deep (show 2 ≤ b - a + 1 by omega) h3 hn
  exact ⟨h1, h2, Nat.le_refl _, Nat.le_refl _, h1, hn, h3, qStk_sw (t := t) hs hd (show 2 * t ≤ 24 by omega) (show (a + b) / 2 < n by omega) h2⟩
theorem qPop_iv {f bf n t : Nat} {w : Nat → Int32} (hn : n ≤ 1000) (hs : qStk bf n w t) (hd : f + n ≤ bf ∨ bf + 24 ≤ f) : (qPop f bf w t).2.2.2.2.2.2 = 0 → qIv bf n (qPop f bf w t).1 (qPop f bf w t).2.1 (qPop f bf w t).2.2.1 (qPop f bf w t).2.2.2.1 (qPop f bf w t).2.2.2.2.1 (qPop f bf w t).2.2.2.2.2.1 := by
  unfold qPop
  split
  · intro h; exact absurd h (show ¬ (1 : Nat) = 0 by decide)
  · rename_i c
    intro _
    obtain ⟨a, b, g1, g2, g3, g4, g5⟩ := hs (t - 1) (by omega)
    rw [g1, g2, nI_c (by omega), nI_c (by omega)]
    exact qRng_iv g3 g4 hn g5 (qStk_less hs (by omega)) hd
theorem qEnd_iv {f bf n t l h s : Nat} {w : Nat → Int32} (h1 : l < h) (h2 : h < n) (h3 : l ≤ s) (h4 : s ≤ h) (hn : n ≤ 1000) (hc : (h - l + 1) * 2 ^ t ≤ n) (hs : qStk bf n w t) (hd : f + n ≤ bf ∨ bf + 24 ≤ f) : (qEnd f bf w t l h s).2.2.2.2.2.2 = 0 → qIv bf n (qEnd f bf w t l h s).1 (qEnd f bf w t l h s).2.1 (qEnd f bf w t l h s).2.2.1 (qEnd f bf w t l h s).2.2.2.1 (qEnd f bf w t l h s).2.2.2.2.1 (qEnd f bf w t l h s).2.2.2.2.2.1 := by
  have hm : ∀ x, x ≤ h - l + 1 → x * 2 ^ t ≤ n := fun x hx => Nat.le_trans (Nat.mul_le_mul_right _ hx) hc
  have hm2 : ∀ x, 2 * x ≤ h - l + 1 → x * 2 ^ (t + 1) ≤ n := fun x hx => by
    have := hm (2 * x) hx
    rw [Nat.pow_succ]
    rw [show x * (2 ^ t * 2) = 2 * x * 2 ^ t by rw [Nat.mul_comm (2 ^ t) 2, ← Nat.mul_assoc, Nat.mul_comm x 2]]
    exact this
  unfold qEnd
  split
  · rename_i c1
    split
    · rename_i c2
      have hp := qStk_psh hs (a := s + 1) (b := h) c2 h2 (hm _ (by omega))
      split
      · rename_i c3
        exact fun _ => qRng_iv (by omega) (by omega) hn (hm2 _ (by omega)) hp hd
      · exact qPop_iv hn hp hd
    · exact qPop_iv hn hs hd
  · rename_i c1
    split
    · rename_i c2
      have hp := qStk_psh hs (a := l) (b := s - 1) (by omega) (by omega) (hm _ (by omega))
      split
      · rename_i c3
        exact fun _ => qRng_iv (by omega) (by omega) hn (hm2 _ (by omega)) hp hd
      · exact qPop_iv hn hp hd
    · exact qPop_iv hn hs hd
theorem qSt1_iv {f bf n t l h s k : Nat} {w : Nat → Int32} (h1 : l < h) (h2 : h < n) (h3 : l ≤ s) (h4 : s ≤ k + 1) (h5 : k < h) (hn : n ≤ 1000) (hc : (h - l + 1) * 2 ^ t ≤ n) (hs : qStk bf n w t) (hd : f + n ≤ bf ∨ bf + 24 ≤ f) : (qSt1 f bf w t l h s k).2.2.2.2.2.2 = 0 → qIv bf n (qSt1 f bf w t l h s k).1 (qSt1 f bf w t l h s k).2.1 (qSt1 f bf w t l h s k).2.2.1 (qSt1 f bf w t l h s k).2.2.2.1 (qSt1 f bf w t l h s k).2.2.2.2.1 (qSt1 f bf w t l h s k).2.2.2.2.2.1 := by
  have ht := q_deep (show 2 ≤ h - l + 1 by omega) hc hn
  unfold qSt1
  split
  · rename_i c
    exact fun _ => ⟨h1, h2, h3, h4, c, hn, hc, hs⟩
  · exact qEnd_iv h1 h2 h3 (by omega) hn hc (qStk_sw hs hd (by omega) (by omega) h2) hd
theorem qStp_iv {f bf n t l h s k : Nat} {w : Nat → Int32} (hv : qIv bf n w t l h s k) (hd : f + n ≤ bf ∨ bf + 24 ≤ f) : (qStp f bf w t l h s k).2.2.2.2.2.2 = 0 → qIv bf n (qStp f bf w t l h s k).1 (qStp f bf w t l h s k).2.1 (qStp f bf w t l h s k).2.2.1 (qStp f bf w t l h s k).2.2.2.1 (qStp f bf w t l h s k).2.2.2.2.1 (qStp f bf w t l h s k).2.2.2.2.2.1 := by
  obtain ⟨h1, h2, h3, h4, h5, h6, h7, h8⟩ := hv
  have ht := q_deep (show 2 ≤ h - l + 1 by omega) h7 h6
  unfold qStp
  split
  · exact qSt1_iv h1 h2 h3 (by omega) h5 h6 h7 h8 hd
  · exact qSt1_iv h1 h2 (by omega) (by omega) h5 h6 h7 (qStk_sw h8 hd (by omega) (by omega) (by omega)) hd
theorem nI_p1 {l s : Nat} (hl : l ≤ 3000) (hs : s ≤ 3000) : (nI l < nI s - (1 : Int32)) = (l + 1 < s) := by
  have e : (nI s - (1 : Int32)).toInt = (s : Int) - 1 := pk_sub_toInt (b := 1) (by omega) (by omega)
  rw [Int32.lt_iff_toInt_lt, e, nI_toInt (by omega)]
  exact propext ⟨fun h => by omega, fun h => by omega⟩
theorem nI_p2 {l s : Nat} (hl : l ≤ 3000) (hs : s ≤ 3000) : (nI s - (1 : Int32) ≤ nI l) = (¬ l + 1 < s) := by
  rw [← nI_p1 hl hs]
  exact propext ⟨fun h => Int32.not_lt.mpr h, fun h => Int32.not_lt.mp h⟩
def qEq (gi : Nat → Int32) (n o t l h s k : Nat) : Prop := gi 2 = nI n ∧ gi 3 = nI o ∧ gi 5 = nI (2 * t) ∧ gi 6 = nI l ∧ gi 7 = nI h ∧ gi 8 = nI s ∧ gi 9 = nI k
section XQ
variable {T : Nat → Option (Nat × Nat)} {F : Nat → Nat → Value} {nx c nW fu sa ca ba f n bf : Nat} {gi : Nat → Int32} {w : Nat → Int32}
theorem xs_bq (h : xS T F c nW sa ca ba 6 f n) (hB : xB T F nW ba bf 24) : gI (xs T F nx c sa ca ba 6 gi w) 1 0 (some ba) = some (nI bf) := by
  have e1 : ba ≠ sa := fun z => by have := xs_k h; rw [← z, hB.1] at this; cases this
  have e2 : ba ≠ c + 2 := fun z => by have := h.2.1; rw [← z, hB.1] at this; cases this
  rw [gI_mk hB.1, xs_o h e1 e2, hB.2.1]; rfl
theorem xs_b1 (h : xS T F c nW sa ca ba 6 f n) (hB : xB T F nW ba bf 24) (h1 : F ba 1 = .int 24) : gI (xs T F nx c sa ca ba 6 gi w) 1 1 (some ba) = some 24 := by
  have e1 : ba ≠ sa := fun z => by have := xs_k h; rw [← z, hB.1] at this; cases this
  have e2 : ba ≠ c + 2 := fun z => by have := h.2.1; rw [← z, hB.1] at this; cases this
  rw [gI_mk hB.1, xs_o h e1 e2, h1]; rfl
theorem x_startRange (h : xS T F c nW sa ca ba 6 f n) {o t l h1 : Nat} (g2 : gi 2 = nI n) (g3 : gi 3 = nI o) (g5 : gi 5 = nI (2 * t)) (g6 : gi 6 = nI l) (g7 : gi 7 = nI h1) (hl : l < h1) (hh : h1 < n) :
    ∃ gi', fX6_startRange fu (xs T F nx c sa ca ba 6 gi w) sa = some ((), xs T F nx c sa ca ba 6 gi' (qRng f w t l h1).1) ∧ qEq gi' n o t l h1 l l := by
  have hn := h.2.2.2.2.2.2.2.2.2.2.2.2
  have d1 : nI (l + h1) / (2 : Int32) = nI ((l + h1) / 2) := pk_div (d := 2) (by omega) (by omega) (by omega)
  have s1 := x_swap8 (fu := fu) (nx := nx) (gi := gi) (w := w) h (i := (l + h1) / 2) (k := h1) (by omega) hh
  simp +decide only [fX6_startRange, gI_x h, pV_x h, rcv_x h, g6, g7, nI_add, d1, s1, ui_s, ui_n, Option.bind_some, bn2_s, zz_0, zz_1, if_true, if_false, ite_true, ite_false, vI_i, vR_n, vR_r, vR_v, reduceCtorEq]
  refine ⟨_, rfl, ?_⟩
  simp +decide only [qEq, ui_s, ui_n, g2, g3, g5, g6, g7, and_self]
theorem x_stackY (h : xS T F c nW sa ca ba 6 f n) (hB : xB T F nW ba bf 24) (hb1 : F ba 1 = .int 24) {t a b : Nat} (g5 : gi 5 = nI (2 * t)) (hab : a < b) (hb : b ≤ 1000) (ht : t ≤ 8) : fX6_stack fu (xs T F nx c sa ca ba 6 gi w) sa (nI a) (nI b) = some ((), xs T F nx c sa ca ba 6 (ui gi 5 (nI (2 * (t + 1)))) (qPsh bf w t a b)) := by
  have c1 : ¬ nI b ≤ nI a := nI_ge hab (by omega)
  have c2 : ¬ (24 : Int32) < nI (2 * t + 2) := nI_nlt (a := 24) (b := 2 * t + 2) (by omega) (by omega)
  have hbf := hB.2.2
  have hW := h.2.2.2.1
  have w1 := x_write (fu := fu) (nx := nx) (xs_A (gi := gi) (w := w) h) (i := bf + 2 * t) (by omega) (nI a)
  have w2 := x_write (fu := fu) (nx := nx) (xs_A (gi := gi) (w := upd w (bf + 2 * t) (nI a)) h) (i := bf + 2 * t + 1) (by omega) (nI b)
  simp only [wF_wF] at w1 w2
  simp +decide only [fX6_stack, c1, gI_x h, pV_x h, g5, gR_x4 h, gR_x0 h, xs_b1 h hB hb1, xs_bq h hB, nI_ad2, c2, rcv_mk h.1, nI_add, nI_ad1, w1, w2, Option.bind_some, bn2_s, zz_0, zz_1, if_true, if_false, ite_true, ite_false, vI_i, vR_n, vR_r, vR_v, reduceCtorEq]
  rfl
theorem x_stackN (h : xS T F c nW sa ca ba 6 f n) {x y : Int32} (hc : y ≤ x) : fX6_stack fu (xs T F nx c sa ca ba 6 gi w) sa x y = some ((), xs T F nx c sa ca ba 6 gi w) := by
  simp only [fX6_stack, hc, if_true]
theorem x_pop (h : xS T F c nW sa ca ba 6 f n) (hB : xB T F nW ba bf 24) {t : Nat} (g2 : gi 2 = nI n) (g3 : gi 3 = nI 0) (g5 : gi 5 = nI (2 * t)) (ht : t ≤ 9) (hs : qStk bf n w t) :
    ∃ gi', ((fX6_takeLatestStacked fu (xs T F nx c sa ca ba 6 gi w) sa).bind fun q => (gI q.2 6 3 (some sa)).bind fun v36 => if v36 = 0 then ((rcv q.2 6 (some sa)).bind fun b42 => bn2 (fX6_startRange fu q.2 b42) fun _ S41 => some ((), S41)) else (some ((), q.2))) = some ((), xs T F nx c sa ca ba 6 gi' (qPop f bf w t).1) ∧ gi' 2 = nI n ∧ gi' 3 = nI (qPop f bf w t).2.2.2.2.2.2 ∧ ((qPop f bf w t).2.2.2.2.2.2 = 0 → qEq gi' n 0 (qPop f bf w t).2.1 (qPop f bf w t).2.2.1 (qPop f bf w t).2.2.2.1 (qPop f bf w t).2.2.2.2.1 (qPop f bf w t).2.2.2.2.2.1) := by
  have hn := h.2.2.2.2.2.2.2.2.2.2.2.2
  have hbf := hB.2.2
  have hW := h.2.2.2.1
  unfold qPop
  by_cases c0 : t = 0
  · subst c0
    simp only [if_true]
    have c1 : ¬ (2 : Int32) ≤ nI (2 * 0) := by decide
    refine ⟨ui gi 3 1, ?_, by simp +decide only [ui_s, ui_n, g2], by simp +decide only [ui_s, ui_n], fun z => absurd z (show ¬ (1 : Nat) = 0 by decide)⟩
    simp +decide only [fX6_takeLatestStacked, gI_x h, pV_x h, g5, c1, ui_s, Option.bind_some, bn2_s, zz_0, zz_1, if_true, if_false, ite_true, ite_false, vI_i, vR_n, vR_r, vR_v, reduceCtorEq]
  · simp only [c0, if_false]
    obtain ⟨a, b, e1, e2, e3, e4, e5⟩ := hs (t - 1) (by omega)
    rw [e1, e2, nI_c (by omega), nI_c (by omega)]
    have c1 : (2 : Int32) ≤ nI (2 * t) := nI_le (a := 2) (by omega) (by omega)
    have d1 : nI (2 * t) - (2 : Int32) = nI (2 * (t - 1)) := by
      have := pk_sub (a := 2 * t) (b := 2) (by omega)
      rw [show 2 * (t - 1) = 2 * t - 2 by omega]
      exact this
    have r1 := fun gi' => x_read (fu := fu) (nx := nx) (xs_A (gi := gi') (w := w) h) (i := bf + 2 * (t - 1)) (by omega)
    have r2 := fun gi' => x_read (fu := fu) (nx := nx) (xs_A (gi := gi') (w := w) h) (i := bf + 2 * (t - 1) + 1) (by omega)
    rw [e1] at r1
    rw [e2] at r2
    obtain ⟨gi', j1, j2⟩ := x_startRange (fu := fu) (nx := nx) (gi := ui (ui (ui gi 5 (nI (2 * (t - 1)))) 6 (nI a)) 7 (nI b)) (w := w) h (o := 0) (t := t - 1) (l := a) (h1 := b) (by simp +decide only [ui_s, ui_n, g2]) (by simp +decide only [ui_s, ui_n, g3]) (by simp +decide only [ui_s, ui_n]) (by simp +decide only [ui_s, ui_n]) (by simp +decide only [ui_s, ui_n]) e3 e4
    refine ⟨gi', ?_, j2.1, j2.2.1, fun _ => j2⟩
    simp +decide only [fX6_takeLatestStacked, gI_x h, pV_x h, rcv_x h, g5, g3, c1, d1, ui_s, ui_n, gR_x0 h, gR_x4 h, xs_bq h hB, rcv_mk h.1, nI_add, nI_ad1, r1, r2, j1, Option.bind_some, bn2_s, zz_0, zz_1, if_true, if_false, ite_true, ite_false, vI_i, vR_n, vR_r, vR_v, reduceCtorEq]
theorem x_qEnd (h : xS T F c nW sa ca ba 6 f n) (hB : xB T F nW ba bf 24) (hb1 : F ba 1 = .int 24) (hd : f + n ≤ bf ∨ bf + 24 ≤ f) {t l h1 s : Nat} (g2 : gi 2 = nI n) (g3 : gi 3 = nI 0) (g5 : gi 5 = nI (2 * t)) (g6 : gi 6 = nI l) (g7 : gi 7 = nI h1) (g8 : gi 8 = nI s) (q1 : l < h1) (q2 : h1 < n) (q3 : l ≤ s) (q4 : s ≤ h1) (hc : (h1 - l + 1) * 2 ^ t ≤ n) (hs : qStk bf n w t) :
    ∃ gi', ((fX6_chooseRange fu (xs T F nx c sa ca ba 6 gi w) sa).bind fun q => (gI q.2 6 3 (some sa)).bind fun v36 => if v36 = 0 then ((rcv q.2 6 (some sa)).bind fun b42 => bn2 (fX6_startRange fu q.2 b42) fun _ S41 => some ((), S41)) else (some ((), q.2))) = some ((), xs T F nx c sa ca ba 6 gi' (qEnd f bf w t l h1 s).1) ∧ gi' 2 = nI n ∧ gi' 3 = nI (qEnd f bf w t l h1 s).2.2.2.2.2.2 ∧ ((qEnd f bf w t l h1 s).2.2.2.2.2.2 = 0 → qEq gi' n 0 (qEnd f bf w t l h1 s).2.1 (qEnd f bf w t l h1 s).2.2.1 (qEnd f bf w t l h1 s).2.2.2.1 (qEnd f bf w t l h1 s).2.2.2.2.1 (qEnd f bf w t l h1 s).2.2.2.2.2.1) := by
  have hn := h.2.2.2.2.2.2.2.2.2.2.2.2
  have ht := q_deep (show 2 ≤ h1 - l + 1 by omega) hc hn
  have hm : ∀ x, x ≤ h1 - l + 1 → x * 2 ^ t ≤ n := fun x hx => Nat.le_trans (Nat.mul_le_mul_right _ hx) hc
  have d1 : nI s - nI l = nI (s - l) := pk_sub q3
  have d2 : nI h1 - nI s = nI (h1 - s) := pk_sub q4
  unfold qEnd
  by_cases c1 : s - l ≤ h1 - s
  · have c2 : nI (s - l) ≤ nI (h1 - s) := nI_le c1 (by omega)
    simp only [c1, if_true]
    simp +decide only [fX6_chooseRange, gI_x h, g6, g7, g8, d1, d2, c2, rcv_x h, nI_ad1, Option.bind_some, bn2_s, zz_0, zz_1, if_true, if_false, ite_true, ite_false, vI_i, vR_n, vR_r, vR_v, reduceCtorEq]
    by_cases c3 : s + 1 < h1
    · simp only [c3, if_true]
      have st := x_stackY (fu := fu) (nx := nx) (w := w) h hB hb1 g5 c3 (by omega) ht
      have hp := qStk_psh hs (a := s + 1) (b := h1) c3 q2 (hm _ (by omega))
      simp +decide only [st, gI_x h, pV_x h, ui_s, ui_n, g8, fX6_chooseRange_72, g6, nI_p1 (show l ≤ 3000 by omega) (show s ≤ 3000 by omega), Option.bind_some, bn2_s, zz_0, zz_1, if_true, if_false, ite_true, ite_false, vI_i, vR_n, vR_r, vR_v, reduceCtorEq]
      by_cases c4 : l + 1 < s
      · simp only [c4, if_true]
        have d3 : nI s - (1 : Int32) = nI (s - 1) := pk_sub (b := 1) (by omega)
        obtain ⟨gi', j1, j2⟩ := x_startRange (fu := fu) (nx := nx) (gi := ui (ui gi 5 (nI (2 * (t + 1)))) 7 (nI (s - 1))) (w := qPsh bf w t (s + 1) h1) h (o := 0) (t := t + 1) (l := l) (h1 := s - 1) (by simp +decide only [ui_s, ui_n, g2]) (by simp +decide only [ui_s, ui_n, g3]) (by simp +decide only [ui_s, ui_n]) (by simp +decide only [ui_s, ui_n, g6]) (by simp +decide only [ui_s, ui_n]) (by omega) (by omega)
        refine ⟨gi', ?_, j2.1, j2.2.1, fun _ => j2⟩
        simp +decide only [gI_x h, rcv_x h, ui_s, ui_n, g3, d3, j1, Option.bind_some, bn2_s, zz_0, zz_1, if_true, if_false, ite_true, ite_false, vI_i, vR_n, vR_r, vR_v, reduceCtorEq]
      · simp only [c4, if_false]
        obtain ⟨gi', j1, j2⟩ := x_pop (fu := fu) (nx := nx) (gi := ui (ui gi 5 (nI (2 * (t + 1)))) 7 (nI s - (1 : Int32))) (w := qPsh bf w t (s + 1) h1) h hB (t := t + 1) (by simp +decide only [ui_s, ui_n, g2]) (by simp +decide only [ui_s, ui_n, g3]) (by simp +decide only [ui_s, ui_n]) (by omega) hp
        refine ⟨gi', ?_, j2⟩
        rw [← j1]
        simp +decide only [rcv_x h, Option.bind_some, bn2_s, zz_0, zz_1, if_true, if_false, ite_true, ite_false, vI_i, vR_n, vR_r, vR_v, reduceCtorEq]
        cases fX6_takeLatestStacked fu (xs T F nx c sa ca ba 6 (ui (ui gi 5 (nI (2 * (t + 1)))) 7 (nI s - (1 : Int32))) (qPsh bf w t (s + 1) h1)) sa <;> rfl
    · simp only [c3, if_false]
      have st := x_stackN (fu := fu) (nx := nx) (gi := gi) (w := w) h (x := nI (s + 1)) (y := nI h1) (nI_le (by omega) (by omega))
      have c4 : ¬ l + 1 < s := by omega
      simp +decide only [st, gI_x h, pV_x h, ui_s, ui_n, g8, fX6_chooseRange_72, g6, nI_p1 (show l ≤ 3000 by omega) (show s ≤ 3000 by omega), c4, Option.bind_some, bn2_s, zz_0, zz_1, if_true, if_false, ite_true, ite_false, vI_i, vR_n, vR_r, vR_v, reduceCtorEq]
      obtain ⟨gi', j1, j2⟩ := x_pop (fu := fu) (nx := nx) (gi := ui gi 7 (nI s - (1 : Int32))) (w := w) h hB (t := t) (by simp +decide only [ui_s, ui_n, g2]) (by simp +decide only [ui_s, ui_n, g3]) (by simp +decide only [ui_s, ui_n, g5]) (by omega) hs
      refine ⟨gi', ?_, j2⟩
      rw [← j1]
      simp +decide only [rcv_x h, Option.bind_some, bn2_s, zz_0, zz_1, if_true, if_false, ite_true, ite_false, vI_i, vR_n, vR_r, vR_v, reduceCtorEq]
      cases fX6_takeLatestStacked fu (xs T F nx c sa ca ba 6 (ui gi 7 (nI s - (1 : Int32))) w) sa <;> rfl
  · have c2 : ¬ nI (s - l) ≤ nI (h1 - s) := nI_ge (by omega) (by omega)
    simp only [c1, if_false]
    have d3 : nI s - (1 : Int32) = nI (s - 1) := pk_sub (b := 1) (by omega)
    simp +decide only [fX6_chooseRange, gI_x h, g6, g7, g8, d1, d2, d3, c2, rcv_x h, Option.bind_some, bn2_s, zz_0, zz_1, if_true, if_false, ite_true, ite_false, vI_i, vR_n, vR_r, vR_v, reduceCtorEq]
    by_cases c3 : l + 1 < s
    · simp only [c3, if_true]
      have st := x_stackY (fu := fu) (nx := nx) (w := w) h hB hb1 g5 (a := l) (b := s - 1) (by omega) (by omega) ht
      have hp := qStk_psh hs (a := l) (b := s - 1) (by omega) (by omega) (hm _ (by omega))
      simp +decide only [st, gI_x h, pV_x h, ui_s, ui_n, g8, fX6_chooseRange_72, g7, nI_ad1, Option.bind_some, bn2_s, zz_0, zz_1, if_true, if_false, ite_true, ite_false, vI_i, vR_n, vR_r, vR_v, reduceCtorEq]
      by_cases c4 : s + 1 < h1
      · have c5 : nI (s + 1) < nI h1 := nI_lt c4 (by omega)
        simp only [c4, c5, if_true]
        obtain ⟨gi', j1, j2⟩ := x_startRange (fu := fu) (nx := nx) (gi := ui (ui gi 5 (nI (2 * (t + 1)))) 6 (nI (s + 1))) (w := qPsh bf w t l (s - 1)) h (o := 0) (t := t + 1) (l := s + 1) (h1 := h1) (by simp +decide only [ui_s, ui_n, g2]) (by simp +decide only [ui_s, ui_n, g3]) (by simp +decide only [ui_s, ui_n]) (by simp +decide only [ui_s, ui_n]) (by simp +decide only [ui_s, ui_n, g7]) (by omega) (by omega)
        refine ⟨gi', ?_, j2.1, j2.2.1, fun _ => j2⟩
        simp +decide only [gI_x h, rcv_x h, ui_s, ui_n, g3, j1, Option.bind_some, bn2_s, zz_0, zz_1, if_true, if_false, ite_true, ite_false, vI_i, vR_n, vR_r, vR_v, reduceCtorEq]
      · have c5 : ¬ nI (s + 1) < nI h1 := nI_nlt (by omega) (by omega)
        simp only [c4, c5, if_false]
        obtain ⟨gi', j1, j2⟩ := x_pop (fu := fu) (nx := nx) (gi := ui (ui gi 5 (nI (2 * (t + 1)))) 6 (nI (s + 1))) (w := qPsh bf w t l (s - 1)) h hB (t := t + 1) (by simp +decide only [ui_s, ui_n, g2]) (by simp +decide only [ui_s, ui_n, g3]) (by simp +decide only [ui_s, ui_n]) (by omega) hp
        refine ⟨gi', ?_, j2⟩
        rw [← j1]
        simp +decide only [rcv_x h, Option.bind_some, bn2_s, zz_0, zz_1, if_true, if_false, ite_true, ite_false, vI_i, vR_n, vR_r, vR_v, reduceCtorEq]
        cases fX6_takeLatestStacked fu (xs T F nx c sa ca ba 6 (ui (ui gi 5 (nI (2 * (t + 1)))) 6 (nI (s + 1))) (qPsh bf w t l (s - 1))) sa <;> rfl
    · simp only [c3, if_false]
      have st := x_stackN (fu := fu) (nx := nx) (gi := gi) (w := w) h (x := nI l) (y := nI (s - 1)) (nI_le (by omega) (by omega))
      have c5 : ¬ nI (s + 1) < nI h1 := nI_nlt (by omega) (by omega)
      simp +decide only [st, gI_x h, pV_x h, ui_s, ui_n, g8, fX6_chooseRange_72, g7, nI_ad1, c5, Option.bind_some, bn2_s, zz_0, zz_1, if_true, if_false, ite_true, ite_false, vI_i, vR_n, vR_r, vR_v, reduceCtorEq]
      obtain ⟨gi', j1, j2⟩ := x_pop (fu := fu) (nx := nx) (gi := ui gi 6 (nI (s + 1))) (w := w) h hB (t := t) (by simp +decide only [ui_s, ui_n, g2]) (by simp +decide only [ui_s, ui_n, g3]) (by simp +decide only [ui_s, ui_n, g5]) (by omega) hs
      refine ⟨gi', ?_, j2⟩
      rw [← j1]
      simp +decide only [rcv_x h, Option.bind_some, bn2_s, zz_0, zz_1, if_true, if_false, ite_true, ite_false, vI_i, vR_n, vR_r, vR_v, reduceCtorEq]
      cases fX6_takeLatestStacked fu (xs T F nx c sa ca ba 6 (ui gi 6 (nI (s + 1))) w) sa <;> rfl
theorem x_qSt1 (h : xS T F c nW sa ca ba 6 f n) (hB : xB T F nW ba bf 24) (hb1 : F ba 1 = .int 24) (hd : f + n ≤ bf ∨ bf + 24 ≤ f) {t l h1 s k : Nat} (e : qEq gi n 0 t l h1 s k) (q1 : l < h1) (q2 : h1 < n) (q3 : l ≤ s) (q4 : s ≤ k + 1) (q5 : k < h1) (hc : (h1 - l + 1) * 2 ^ t ≤ n) (hs : qStk bf n w t) :
    ∃ gi', fX6_compareNext_41 fu (xs T F nx c sa ca ba 6 gi w) sa = some ((), xs T F nx c sa ca ba 6 gi' (qSt1 f bf w t l h1 s k).1) ∧ gi' 2 = nI n ∧ gi' 3 = nI (qSt1 f bf w t l h1 s k).2.2.2.2.2.2 ∧ ((qSt1 f bf w t l h1 s k).2.2.2.2.2.2 = 0 → qEq gi' n 0 (qSt1 f bf w t l h1 s k).2.1 (qSt1 f bf w t l h1 s k).2.2.1 (qSt1 f bf w t l h1 s k).2.2.2.1 (qSt1 f bf w t l h1 s k).2.2.2.2.1 (qSt1 f bf w t l h1 s k).2.2.2.2.2.1) := by
  have hn := h.2.2.2.2.2.2.2.2.2.2.2.2
  have ht := q_deep (show 2 ≤ h1 - l + 1 by omega) hc hn
  obtain ⟨g2, g3, g5, g6, g7, g8, g9⟩ := e
  unfold qSt1
  by_cases c1 : k + 1 < h1
  · have c2 : nI (k + 1) < nI h1 := nI_lt c1 (by omega)
    simp only [c1, if_true]
    refine ⟨ui gi 9 (nI (k + 1)), ?_, by simp +decide only [ui_s, ui_n, g2], by simp +decide only [ui_s, ui_n, g3], fun _ => by simp +decide only [qEq, ui_s, ui_n, g2, g3, g5, g6, g7, g8, and_self]⟩
    simp +decide only [fX6_compareNext_41, gI_x h, pV_x h, g9, nI_ad1, ui_s, ui_n, g7, c2, Option.bind_some, bn2_s, zz_0, zz_1, if_true, if_false, ite_true, ite_false, vI_i, vR_n, vR_r, vR_v, reduceCtorEq]
  · have c2 : ¬ nI (k + 1) < nI h1 := nI_nlt (by omega) (by omega)
    simp only [c1, if_false]
    have s1 := x_swap8 (fu := fu) (nx := nx) (gi := ui gi 9 (nI (k + 1))) (w := w) h (i := s) (k := h1) (by omega) q2
    obtain ⟨gi', j1, j2⟩ := x_qEnd (fu := fu) (nx := nx) (gi := ui gi 9 (nI (k + 1))) (w := sw w (f + s) (f + h1)) h hB hb1 hd (t := t) (l := l) (h1 := h1) (s := s) (by simp +decide only [ui_s, ui_n, g2]) (by simp +decide only [ui_s, ui_n, g3]) (by simp +decide only [ui_s, ui_n, g5]) (by simp +decide only [ui_s, ui_n, g6]) (by simp +decide only [ui_s, ui_n, g7]) (by simp +decide only [ui_s, ui_n, g8]) q1 q2 q3 (by omega) hc (qStk_sw hs hd (by omega) (by omega) q2)
    refine ⟨gi', ?_, j2⟩
    rw [← j1]
    simp +decide only [fX6_compareNext_41, gI_x h, pV_x h, rcv_x h, g9, nI_ad1, ui_s, ui_n, g7, g8, c2, s1, Option.bind_some, bn2_s, zz_0, zz_1, if_true, if_false, ite_true, ite_false, vI_i, vR_n, vR_r, vR_v, reduceCtorEq]
    cases fX6_chooseRange fu (xs T F nx c sa ca ba 6 (ui gi 9 (nI (k + 1))) (sw w (f + s) (f + h1))) sa <;> rfl
theorem x_quickStep (h : xS T F c nW sa ca ba 6 f n) (hB : xB T F nW ba bf 24) (hb1 : F ba 1 = .int 24) (hd : f + n ≤ bf ∨ bf + 24 ≤ f) {t l h1 s k : Nat} (e : qEq gi n 0 t l h1 s k) (hv : qIv bf n w t l h1 s k) :
    ∃ gi', fX6_compareNext fu (xs T F nx c sa ca ba 6 gi w) sa = some ((), xs T F nx c sa ca ba 6 gi' (qStp f bf w t l h1 s k).1) ∧ gi' 2 = nI n ∧ gi' 3 = nI (qStp f bf w t l h1 s k).2.2.2.2.2.2 ∧ ((qStp f bf w t l h1 s k).2.2.2.2.2.2 = 0 → qEq gi' n 0 (qStp f bf w t l h1 s k).2.1 (qStp f bf w t l h1 s k).2.2.1 (qStp f bf w t l h1 s k).2.2.2.1 (qStp f bf w t l h1 s k).2.2.2.2.1 (qStp f bf w t l h1 s k).2.2.2.2.2.1) := by
  obtain ⟨q1, q2, q3, q4, q5, q6, q7, q8⟩ := hv
  have ht := q_deep (show 2 ≤ h1 - l + 1 by omega) q7 q6
  have e' := e
  obtain ⟨g2, g3, g5, g6, g7, g8, g9⟩ := e
  have a1 := x_cell (fu := fu) (nx := nx) (gi := gi) (w := w) h (i := k) (by omega)
  have a2 := x_cell (fu := fu) (nx := nx) (gi := gi) (w := w) h (i := h1) (by omega)
  have s1 := x_swap8 (fu := fu) (nx := nx) (gi := gi) (w := w) h (i := k) (k := s) (by omega) (by omega)
  simp +decide only [fX6_compareNext, gI_x h, rcv_x h, g9, g7, a1, a2, Option.bind_some, bn2_s, zz_0, zz_1, if_true, if_false, ite_true, ite_false, vI_i, vR_n, vR_r, vR_v, reduceCtorEq, qStp]
  by_cases c1 : w (f + h1) ≤ w (f + k)
  · simp only [c1, if_true]
    exact x_qSt1 h hB hb1 hd e' q1 q2 q3 (by omega) q5 q7 q8
  · simp +decide only [c1, if_false, gI_x h, rcv_x h, pV_x h, g8, g9, s1, nI_ad1, Option.bind_some, bn2_s, zz_0, zz_1, if_true, if_false, ite_true, ite_false, vI_i, vR_n, vR_r, vR_v, reduceCtorEq]
    exact x_qSt1 h hB hb1 hd (by simp +decide only [qEq, ui_s, ui_n, g2, g3, g5, g6, g7, g9, and_self]) q1 q2 (by omega) (by omega) q5 q7 (qStk_sw q8 hd (by omega) (by omega) (by omega))
end XQ
