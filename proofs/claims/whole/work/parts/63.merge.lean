/-! MERGE on both sides -/
def qA (q f bf : Nat) : Nat := if q = 0 then f else bf
/-- words, place, width, l, y, u, z, v, p, over -/
abbrev mSta : Type := (Nat → Int32) × Nat × Nat × Nat × Nat × Nat × Nat × Nat × Nat × Nat
def mEnd (f bf n : Nat) (w : Nat → Int32) (q wd : Nat) : mSta :=
  if 2 * wd < n then (w, 1 - q, 2 * wd, 0, 0, 2 * wd, 2 * wd, min (2 * (2 * wd)) n, 0, 0) else ((if q = 0 then va_cpy w w bf f n else w), 1 - q, 2 * wd, 0, 0, 0, 0, 0, 0, 1)
def mRs (f bf : Nat) (w : Nat → Int32) (q y u z v p : Nat) : Nat → Int32 := if y < u then va_cpy w w (qA q f bf + y) (qA (1 - q) f bf + p) (u - y) else va_cpy w w (qA q f bf + z) (qA (1 - q) f bf + p) (v - z)
def mCt (f bf n : Nat) (w : Nat → Int32) (q wd l y u z v p : Nat) : mSta :=
  if y < u ∧ z < v then (w, q, wd, l, y, u, z, v, p, 0)
  else if l + 2 * wd < n then
    (if l + 2 * wd + wd < n then (mRs f bf w q y u z v p, q, wd, l + 2 * wd, l + 2 * wd, l + 2 * wd + wd, l + 2 * wd + wd, min (l + 2 * wd + 2 * wd) n, l + 2 * wd, 0)
     else mEnd f bf n (va_cpy (mRs f bf w q y u z v p) (mRs f bf w q y u z v p) (qA q f bf + (l + 2 * wd)) (qA (1 - q) f bf + (l + 2 * wd)) (n - (l + 2 * wd))) q wd)
  else mEnd f bf n (mRs f bf w q y u z v p) q wd
def mStp (f bf n : Nat) (w : Nat → Int32) (q wd l y u z v p : Nat) : mSta :=
  if w (qA q f bf + z) < w (qA q f bf + y) then mCt f bf n (upd w (qA (1 - q) f bf + p) (w (qA q f bf + z))) q wd l y u (z + 1) v (p + 1)
  else mCt f bf n (upd w (qA (1 - q) f bf + p) (w (qA q f bf + y))) q wd l (y + 1) u z v (p + 1)
/-- what holds ahead of what is done behind a comparison -/
def mIw (n q wd l y u z v p : Nat) : Prop := q ≤ 1 ∧ 1 ≤ wd ∧ n ≤ 1000 ∧ l + wd < n ∧ u = l + wd ∧ v = min (l + 2 * wd) n ∧ l ≤ y ∧ y ≤ u ∧ u ≤ z ∧ z ≤ v ∧ p = y + z - u
def mIv (n q wd l y u z v p : Nat) : Prop := mIw n q wd l y u z v p ∧ y < u ∧ z < v
theorem mEnd_iv {f bf n q wd : Nat} {w : Nat → Int32} (h1 : q ≤ 1) (h2 : 1 ≤ wd) (h3 : n ≤ 1000) : (mEnd f bf n w q wd).2.2.2.2.2.2.2.2.2 = 0 → mIv n (mEnd f bf n w q wd).2.1 (mEnd f bf n w q wd).2.2.1 (mEnd f bf n w q wd).2.2.2.1 (mEnd f bf n w q wd).2.2.2.2.1 (mEnd f bf n w q wd).2.2.2.2.2.1 (mEnd f bf n w q wd).2.2.2.2.2.2.1 (mEnd f bf n w q wd).2.2.2.2.2.2.2.1 (mEnd f bf n w q wd).2.2.2.2.2.2.2.2.1 := by
  unfold mEnd
  split
  · rename_i c
    intro _
    refine ⟨⟨?_, ?_, h3, ?_, ?_, ?_, Nat.le_refl _, Nat.zero_le _, Nat.le_refl _, ?_, ?_⟩, ?_, ?_⟩
    · show 1 - q ≤ 1; omega
    · show 1 ≤ 2 * wd; omega
    · show 0 + 2 * wd < n; omega
    · show 2 * wd = 0 + 2 * wd; omega
    · show min (2 * (2 * wd)) n = min (0 + 2 * (2 * wd)) n; rw [Nat.zero_add]
    · show 2 * wd ≤ min (2 * (2 * wd)) n; omega
    · show 0 = 0 + 2 * wd - 2 * wd; omega
    · show 0 < 2 * wd; omega
    · show 2 * wd < min (2 * (2 * wd)) n; omega
  · intro h; exact absurd h (show ¬ (1 : Nat) = 0 by decide)
theorem mCt_iv {f bf n q wd l y u z v p : Nat} {w : Nat → Int32} (h : mIw n q wd l y u z v p) : (mCt f bf n w q wd l y u z v p).2.2.2.2.2.2.2.2.2 = 0 → mIv n (mCt f bf n w q wd l y u z v p).2.1 (mCt f bf n w q wd l y u z v p).2.2.1 (mCt f bf n w q wd l y u z v p).2.2.2.1 (mCt f bf n w q wd l y u z v p).2.2.2.2.1 (mCt f bf n w q wd l y u z v p).2.2.2.2.2.1 (mCt f bf n w q wd l y u z v p).2.2.2.2.2.2.1 (mCt f bf n w q wd l y u z v p).2.2.2.2.2.2.2.1 (mCt f bf n w q wd l y u z v p).2.2.2.2.2.2.2.2.1 := by
  have h' := h
  obtain ⟨h1, h2, h3, h4, h5, h6, h7, h8, h9, h10, h11⟩ := h
  unfold mCt
  split
  · rename_i c
    exact fun _ => ⟨h', c.1, c.2⟩
  · split
    · split
      · rename_i c1 c2
        intro _
        refine ⟨⟨h1, h2, h3, ?_, rfl, rfl, Nat.le_refl _, ?_, Nat.le_refl _, ?_, ?_⟩, ?_, ?_⟩
        · show l + 2 * wd + wd < n; exact c2
        · show l + 2 * wd ≤ l + 2 * wd + wd; omega
        · show l + 2 * wd + wd ≤ min (l + 2 * wd + 2 * wd) n; omega
        · show l + 2 * wd = l + 2 * wd + (l + 2 * wd + wd) - (l + 2 * wd + wd); omega
        · show l + 2 * wd < l + 2 * wd + wd; omega
        · show l + 2 * wd + wd < min (l + 2 * wd + 2 * wd) n; omega
      · exact mEnd_iv h1 h2 h3
    · exact mEnd_iv h1 h2 h3
theorem mStp_iv {f bf n q wd l y u z v p : Nat} {w : Nat → Int32} (h : mIv n q wd l y u z v p) : (mStp f bf n w q wd l y u z v p).2.2.2.2.2.2.2.2.2 = 0 → mIv n (mStp f bf n w q wd l y u z v p).2.1 (mStp f bf n w q wd l y u z v p).2.2.1 (mStp f bf n w q wd l y u z v p).2.2.2.1 (mStp f bf n w q wd l y u z v p).2.2.2.2.1 (mStp f bf n w q wd l y u z v p).2.2.2.2.2.1 (mStp f bf n w q wd l y u z v p).2.2.2.2.2.2.1 (mStp f bf n w q wd l y u z v p).2.2.2.2.2.2.2.1 (mStp f bf n w q wd l y u z v p).2.2.2.2.2.2.2.2.1 := by
  obtain ⟨⟨h1, h2, h3, h4, h5, h6, h7, h8, h9, h10, h11⟩, hy, hz⟩ := h
  unfold mStp
  split
  · exact mCt_iv ⟨h1, h2, h3, h4, h5, h6, h7, h8, by omega, by omega, by omega⟩
  · exact mCt_iv ⟨h1, h2, h3, h4, h5, h6, by omega, by omega, h9, h10, by omega⟩
theorem cpy_u (w : Nat → Int32) {s t k : Nat} (h : s + (k + 1) ≤ t ∨ t + (k + 1) ≤ s) : va_cpy (upd w t (w s)) (upd w t (w s)) (s + 1) (t + 1) k = va_cpy w w s t (k + 1) := by
  funext q
  simp only [va_cpy, upd]
  by_cases c1 : t + 1 ≤ q ∧ q < t + 1 + k
  · rw [if_pos c1, if_neg (by omega), if_pos (by omega), show s + 1 + (q - (t + 1)) = s + (q - t) by omega]
  · rw [if_neg c1]
    by_cases c2 : q = t
    · subst c2
      rw [if_pos rfl, if_pos (by omega), show s + (q - q) = s by omega]
    · rw [if_neg c2, if_neg (by omega)]
def eEq (gi : Nat → Int32) (n o q wd y u z v p : Nat) : Prop := gi 2 = nI n ∧ gi 3 = nI o ∧ gi 5 = nI q ∧ gi 6 = nI wd ∧ gi 7 = nI y ∧ gi 8 = nI u ∧ gi 9 = nI z ∧ gi 10 = nI v ∧ gi 11 = nI p
section XM
variable {T : Nat → Option (Nat × Nat)} {F : Nat → Nat → Value} {nx c nW fu sa ca ba f n bf : Nat} {gi : Nat → Int32} {w : Nat → Int32}
def xB (T : Nat → Option (Nat × Nat)) (F : Nat → Nat → Value) (nW ba bf m : Nat) : Prop := kd T ba = some 1 ∧ F ba 0 = .int (nI bf) ∧ bf + m ≤ nW
theorem xs_ba (h : xS T F c nW sa ca ba 5 f n) (hB : xB T F nW ba bf n) : gI (xs T F nx c sa ca ba 5 gi w) 1 0 (some ba) = some (nI bf) := by
  have e1 : ba ≠ sa := fun z => by have := xs_k h; rw [← z, hB.1] at this; cases this
  have e2 : ba ≠ c + 2 := fun z => by have := h.2.1; rw [← z, hB.1] at this; cases this
  rw [gI_mk hB.1, xs_o h e1 e2, hB.2.1]; rfl
theorem q01 {q : Nat} (h : q ≤ 1) : (nI q = (0 : Int32)) = (q = 0) := propext (nI_eq (b := 0) (by omega) (by omega))
theorem x_from (h : xS T F c nW sa ca ba 5 f n) (hB : xB T F nW ba bf n) {q : Nat} (hq : q ≤ 1) (e : gi 5 = nI q) : fX5_from fu (xs T F nx c sa ca ba 5 gi w) sa = some (nI (qA q f bf), xs T F nx c sa ca ba 5 gi w) := by
  have : q = 0 ∨ q = 1 := by omega
  rcases this with rfl | rfl
  · simp +decide only [fX5_from, gI_x h, e, gR_x1 h, xs_ca h, qA, Option.bind_some, bn2_s, zz_0, zz_1, if_true, if_false, ite_true, ite_false, vI_i, vR_n, vR_r, vR_v, reduceCtorEq]
  · simp +decide only [fX5_from, gI_x h, e, gR_x4 h, xs_ba h hB, qA, Option.bind_some, bn2_s, zz_0, zz_1, if_true, if_false, ite_true, ite_false, vI_i, vR_n, vR_r, vR_v, reduceCtorEq]
theorem x_to (h : xS T F c nW sa ca ba 5 f n) (hB : xB T F nW ba bf n) {q : Nat} (hq : q ≤ 1) (e : gi 5 = nI q) : fX5_to fu (xs T F nx c sa ca ba 5 gi w) sa = some (nI (qA (1 - q) f bf), xs T F nx c sa ca ba 5 gi w) := by
  have : q = 0 ∨ q = 1 := by omega
  rcases this with rfl | rfl
  · simp +decide only [fX5_to, gI_x h, e, gR_x4 h, xs_ba h hB, qA, Option.bind_some, bn2_s, zz_0, zz_1, if_true, if_false, ite_true, ite_false, vI_i, vR_n, vR_r, vR_v, reduceCtorEq]
  · simp +decide only [fX5_to, gI_x h, e, gR_x1 h, xs_ca h, qA, Option.bind_some, bn2_s, zz_0, zz_1, if_true, if_false, ite_true, ite_false, vI_i, vR_n, vR_r, vR_v, reduceCtorEq]
theorem qA_le {nW q f bf n : Nat} (h1 : f + n ≤ nW) (h2 : bf + n ≤ nW) : qA q f bf + n ≤ nW := by unfold qA; split <;> omega
theorem x_copyRest (h : xS T F c nW sa ca ba 5 f n) (hB : xB T F nW ba bf n) {q wd y u z v p : Nat} (hq : q ≤ 1) (e : eEq gi n 0 q wd y u z v p) (h1 : y ≤ u) (h2 : z ≤ v) (h3 : v ≤ n) (h4 : u ≤ n) (h5 : p + (if y < u then u - y else v - z) ≤ n) :
    fX5_copyRest fu (xs T F nx c sa ca ba 5 gi w) sa = some ((), xs T F nx c sa ca ba 5 gi (mRs f bf w q y u z v p)) := by
  have hf := h.2.2.2.2.2.2.2.2.2.2.1
  have hn := h.2.2.2.2.2.2.2.2.2.2.2.2
  have hA := xs_A (gi := gi) (w := w) h
  have l1 := qA_le (q := q) hf hB.2.2
  have l2 := qA_le (q := 1 - q) hf hB.2.2
  have hW := h.2.2.2.1
  obtain ⟨e2, e3, e5, e6, e7, e8, e9, e10, e11⟩ := e
  have key : ∀ a b, a ≤ b → b ≤ n → p + (b - a) ≤ n → fX5_copyRest_45 fu (xs T F nx c sa ca ba 5 gi w) sa (nI a) (nI b) = some ((), xs T F nx c sa ca ba 5 gi (va_cpy w w (qA q f bf + a) (qA (1 - q) f bf + p) (b - a))) := by
    intro a b ab bn pn
    simp +decide only [fX5_copyRest_45, gR_x0 h, rcv_x h, x_from h hB hq e5, x_to h hB hq e5, gI_x h, e11, rcv_mk h.1, nI_add, pk_sub ab, Option.bind_some, bn2_s, zz_0, zz_1, if_true, if_false, ite_true, ite_false, vI_i, vR_n, vR_r, vR_v, reduceCtorEq]
    by_cases c1 : b - a = 0
    · rw [c1, show nI 0 = (0 : Int32) from rfl, x_copy0 hA, cpy_0]
      rfl
    · rw [x_copy hA (by omega) (by omega) (by omega), wF_wF]
      rfl
  unfold mRs
  by_cases c1 : y < u
  · have c2 : ¬ nI u ≤ nI y := nI_ge c1 (by omega)
    rw [if_pos c1] at h5
    simp +decide only [fX5_copyRest, fX5_copyRest_22, gI_x h, e7, e8, c2, c1, Option.bind_some, bn2_s, zz_0, zz_1, if_true, if_false, ite_true, ite_false, vI_i, vR_n, vR_r, vR_v, reduceCtorEq]
    exact key y u h1 h4 h5
  · have c2 : nI u ≤ nI y := nI_le (by omega) (by omega)
    rw [if_neg c1] at h5
    simp +decide only [fX5_copyRest, fX5_copyRest_22, gI_x h, e7, e8, e9, e10, c2, c1, Option.bind_some, bn2_s, zz_0, zz_1, if_true, if_false, ite_true, ite_false, vI_i, vR_n, vR_r, vR_v, reduceCtorEq]
    exact key z v h2 h3 h5
theorem x_standAt (h : xS T F c nW sa ca ba 5 f n) {o q wd l : Nat} (g2 : gi 2 = nI n) (g3 : gi 3 = nI o) (g5 : gi 5 = nI q) (g6 : gi 6 = nI wd) (hl : l ≤ 1000) (hwd : wd ≤ 1000) :
    ∃ gi', fX5_standAt fu (xs T F nx c sa ca ba 5 gi w) sa (nI l) = some ((), xs T F nx c sa ca ba 5 gi' w) ∧ eEq gi' n o q wd l (min (l + wd) n) (min (l + wd) n) (min (l + 2 * wd) n) l := by
  have hn := h.2.2.2.2.2.2.2.2.2.2.2.2
  have d1 : (2 : Int32) * nI wd = nI (2 * wd) := pk_mul 2 wd
  have m1 := imn_nI (a := l + wd) (b := n) (by omega) (by omega)
  have m2 := imn_nI (a := l + 2 * wd) (b := n) (by omega) (by omega)
  simp +decide only [fX5_standAt, gI_x h, pV_x h, ui_s, ui_n, g2, g6, nI_add, d1, m1, m2, Option.bind_some, bn2_s, zz_0, zz_1, if_true, if_false, ite_true, ite_false, vI_i, vR_n, vR_r, vR_v, reduceCtorEq]
  refine ⟨_, rfl, ?_⟩
  simp +decide only [eEq, ui_s, ui_n, g2, g3, g5, g6, and_self]
theorem x_endPass (h : xS T F c nW sa ca ba 5 f n) (hB : xB T F nW ba bf n) {q wd : Nat} (hq : q ≤ 1) (g2 : gi 2 = nI n) (g3 : gi 3 = nI 0) (g5 : gi 5 = nI q) (g6 : gi 6 = nI wd) (hwd : wd < n) :
    ∃ gi', fX5_endPass fu (xs T F nx c sa ca ba 5 gi w) sa = some ((), xs T F nx c sa ca ba 5 gi' (mEnd f bf n w q wd).1) ∧ gi' 2 = nI n ∧ gi' 3 = nI (mEnd f bf n w q wd).2.2.2.2.2.2.2.2.2 ∧ ((mEnd f bf n w q wd).2.2.2.2.2.2.2.2.2 = 0 → eEq gi' n 0 (mEnd f bf n w q wd).2.1 (mEnd f bf n w q wd).2.2.1 (mEnd f bf n w q wd).2.2.2.2.1 (mEnd f bf n w q wd).2.2.2.2.2.1 (mEnd f bf n w q wd).2.2.2.2.2.2.1 (mEnd f bf n w q wd).2.2.2.2.2.2.2.1 (mEnd f bf n w q wd).2.2.2.2.2.2.2.2.1) := by
  have hn := h.2.2.2.2.2.2.2.2.2.2.2.2
  have hf := h.2.2.2.2.2.2.2.2.2.2.1
  have d1 : nI wd * (2 : Int32) = nI (2 * wd) := by rw [Nat.mul_comm]; exact pk_mul wd 2
  have n1 : (if q = 0 then (1 : Int32) else 0) = nI (1 - q) := by
    have : q = 0 ∨ q = 1 := by omega
    rcases this with rfl | rfl <;> rfl
  have z1 : zz (nI (1 - q)) = some (nI (1 - q)) := by
    have : q = 0 ∨ q = 1 := by omega
    rcases this with rfl | rfl <;> rfl
  have e13 : fX5_endPass fu (xs T F nx c sa ca ba 5 gi w) sa = fX5_endPass_13 fu (xs T F nx c sa ca ba 5 gi w) sa (some sa) (nI (1 - q)) := by
    have : q = 0 ∨ q = 1 := by omega
    rcases this with rfl | rfl <;> simp +decide only [fX5_endPass, gI_x h, g5, Option.bind_some, bn2_s, zz_0, zz_1, if_true, if_false, ite_true, ite_false, vI_i, vR_n, vR_r, vR_v, reduceCtorEq] <;> rfl
  rw [e13]
  unfold mEnd
  by_cases c1 : 2 * wd < n
  · simp only [c1, if_true]
    have c2 : ¬ nI n ≤ nI (2 * wd) := nI_ge c1 (by omega)
    obtain ⟨gi', j1, j2⟩ := x_standAt (fu := fu) (nx := nx) (gi := ui (ui gi 5 (nI (1 - q))) 6 (nI (2 * wd))) (w := w) h (o := 0) (q := 1 - q) (wd := 2 * wd) (l := 0) (by simp +decide only [ui_s, ui_n, g2]) (by simp +decide only [ui_s, ui_n, g3]) (by simp +decide only [ui_s, ui_n]) (by simp +decide only [ui_s, ui_n]) (by omega) (by omega)
    rw [show nI 0 = (0 : Int32) from rfl] at j1
    rw [Nat.zero_add, Nat.zero_add, Nat.min_eq_left (show 2 * wd ≤ n by omega)] at j2
    refine ⟨gi', ?_, j2.1, j2.2.1, fun _ => j2⟩
    simp +decide only [fX5_endPass_13, z1, gI_x h, pV_x h, rcv_x h, ui_s, ui_n, g2, g6, d1, c2, j1, Option.bind_some, bn2_s, zz_0, zz_1, if_true, if_false, ite_true, ite_false, vI_i, vR_n, vR_r, vR_v, reduceCtorEq]
  · simp only [c1, if_false]
    have c2 : nI n ≤ nI (2 * wd) := nI_le (by omega) (by omega)
    have hA := fun gi' => xs_A (gi := gi') (w := w) h
    have : q = 0 ∨ q = 1 := by omega
    rcases this with rfl | rfl
    · have cp := fun gi' => x_copy (fu := fu) (nx := nx) (hA gi') (f := bf) (t := f) (n := n) (by have := hB.2.2; omega) (by omega) (by omega)
      simp only [wF_wF] at cp
      refine ⟨ui (ui (ui gi 5 (nI 1)) 6 (nI (2 * wd))) 3 1, ?_, by simp +decide only [ui_s, ui_n, g2], by simp +decide only [ui_s, ui_n], fun z => absurd z (show ¬ (1 : Nat) = 0 by decide)⟩
      simp +decide only [fX5_endPass_13, fX5_endPass_75, z1, gI_x h, pV_x h, ui_s, ui_n, g2, g6, d1, c2, gR_x0 h, gR_x1 h, gR_x4 h, xs_ba h hB, xs_ca h, rcv_mk h.1, cp, Option.bind_some, bn2_s, zz_0, zz_1, if_true, if_false, ite_true, ite_false, vI_i, vR_n, vR_r, vR_v, reduceCtorEq]
    · refine ⟨ui (ui (ui gi 5 (nI 0)) 6 (nI (2 * wd))) 3 1, ?_, by simp +decide only [ui_s, ui_n, g2], by simp +decide only [ui_s, ui_n], fun z => absurd z (show ¬ (1 : Nat) = 0 by decide)⟩
      simp +decide only [fX5_endPass_13, fX5_endPass_75, z1, gI_x h, pV_x h, ui_s, ui_n, g2, g6, d1, c2, Option.bind_some, bn2_s, zz_0, zz_1, if_true, if_false, ite_true, ite_false, vI_i, vR_n, vR_r, vR_v, reduceCtorEq]
theorem x_mergeCt (h : xS T F c nW sa ca ba 5 f n) (hB : xB T F nW ba bf n) {q wd l y u z v p p0 : Nat} (e : eEq gi n 0 q wd y u z v p0) (hp : p = p0 + 1) (hv : mIw n q wd l y u z v p) (hyz : y < u ∨ z < v) :
    ∃ gi', fX5_compareNext_96 fu (xs T F nx c sa ca ba 5 gi w) sa = some ((), xs T F nx c sa ca ba 5 gi' (mCt f bf n w q wd l y u z v p).1) ∧ gi' 2 = nI n ∧ gi' 3 = nI (mCt f bf n w q wd l y u z v p).2.2.2.2.2.2.2.2.2 ∧ ((mCt f bf n w q wd l y u z v p).2.2.2.2.2.2.2.2.2 = 0 → eEq gi' n 0 (mCt f bf n w q wd l y u z v p).2.1 (mCt f bf n w q wd l y u z v p).2.2.1 (mCt f bf n w q wd l y u z v p).2.2.2.2.1 (mCt f bf n w q wd l y u z v p).2.2.2.2.2.1 (mCt f bf n w q wd l y u z v p).2.2.2.2.2.2.1 (mCt f bf n w q wd l y u z v p).2.2.2.2.2.2.2.1 (mCt f bf n w q wd l y u z v p).2.2.2.2.2.2.2.2.1) := by
  have hn := h.2.2.2.2.2.2.2.2.2.2.2.2
  obtain ⟨h1, h2, h3, h4, h5, h6, h7, h8, h9, h10, h11⟩ := hv
  obtain ⟨g2, g3, g5, g6, g7, g8, g9, g10, g11⟩ := e
  have g11' : gi 11 + (1 : Int32) = nI p := by rw [g11, nI_ad1, hp]
  have e1 : eEq (ui gi 11 (nI p)) n 0 q wd y u z v p := by simp +decide only [eEq, ui_s, ui_n, g2, g3, g5, g6, g7, g8, g9, g10, and_self]
  unfold mCt
  by_cases c0 : y < u ∧ z < v
  · simp only [c0, and_self, if_true]
    have c1 : ¬ nI u ≤ nI y := nI_ge c0.1 (by omega)
    have c2 : nI z < nI v := nI_lt c0.2 (by omega)
    refine ⟨ui gi 11 (nI p), ?_, e1.1, e1.2.1, fun _ => e1⟩
    simp +decide only [fX5_compareNext_96, gI_x h, pV_x h, g11', ui_s, ui_n, g7, g8, g9, g10, c1, c2, Option.bind_some, bn2_s, zz_0, zz_1, if_true, if_false, ite_true, ite_false, vI_i, vR_n, vR_r, vR_v, reduceCtorEq]
  · simp only [c0, if_false]
    have e96 : fX5_compareNext_96 fu (xs T F nx c sa ca ba 5 gi w) sa = fX5_compareNext_128 fu (xs T F nx c sa ca ba 5 (ui gi 11 (nI p)) w) sa := by
      by_cases c1 : y < u
      · have c2 : ¬ nI u ≤ nI y := nI_ge c1 (by omega)
        have c3 : ¬ nI z < nI v := nI_nlt (by omega) (by omega)
        simp +decide only [fX5_compareNext_96, gI_x h, pV_x h, g11', ui_s, ui_n, g7, g8, g9, g10, c2, c3, Option.bind_some, bn2_s, zz_0, zz_1, if_true, if_false, ite_true, ite_false, vI_i, vR_n, vR_r, vR_v, reduceCtorEq]
      · have c2 : nI u ≤ nI y := nI_le (by omega) (by omega)
        simp +decide only [fX5_compareNext_96, gI_x h, pV_x h, g11', ui_s, ui_n, g7, g8, c2, Option.bind_some, bn2_s, zz_0, zz_1, if_true, if_false, ite_true, ite_false, vI_i, vR_n, vR_r, vR_v, reduceCtorEq]
    rw [e96]
    have cr := x_copyRest (fu := fu) (nx := nx) (w := w) h hB h1 e1 h8 h10 (by omega) (by omega) (by split <;> omega)
    generalize hw1 : mRs f bf w q y u z v p = w1 at *
    obtain ⟨gi2, s1, s2⟩ := x_standAt (fu := fu) (nx := nx) (gi := ui gi 11 (nI p)) (w := w1) h (o := 0) (q := q) (wd := wd) (l := v) e1.1 e1.2.1 e1.2.2.1 e1.2.2.2.1 (by omega) (by omega)
    by_cases c1 : l + 2 * wd < n
    · have ev : v = l + 2 * wd := by omega
      simp only [c1, if_true]
      by_cases c2 : l + 2 * wd + wd < n
      · simp only [c2, if_true]
        have m1 : min (v + wd) n = l + 2 * wd + wd := by omega
        have m2 : min (v + 2 * wd) n = min (l + 2 * wd + 2 * wd) n := by rw [ev]
        rw [m1, m2] at s2
        obtain ⟨t2, t3, t5, t6, t7, t8, t9, t10, t11⟩ := id s2
        have c3 : nI (l + 2 * wd + wd) < nI (min (l + 2 * wd + 2 * wd) n) := nI_lt (by omega) (by omega)
        refine ⟨gi2, ?_, t2, t3, fun _ => ?_⟩
        · simp +decide only [fX5_compareNext_128, fX5_goOnWithNextRows, rcv_x h, cr, gI_x h, e1.2.2.2.2.2.2.2.1, s1, t9, t10, c3, Option.bind_some, bn2_s, zz_0, zz_1, if_true, if_false, ite_true, ite_false, vI_i, vR_n, vR_r, vR_v, reduceCtorEq]
        · rw [ev] at s2; exact s2
      · simp only [c2, if_false]
        have m1 : min (v + wd) n = n := by omega
        have m2 : min (v + 2 * wd) n = n := by omega
        rw [m1, m2] at s2
        obtain ⟨t2, t3, t5, t6, t7, t8, t9, t10, t11⟩ := id s2
        have c3 : ¬ nI n < nI n := nI_nlt (Nat.le_refl _) (by omega)
        have cr2 := x_copyRest (fu := fu) (nx := nx) (w := w1) h hB h1 s2 (by omega) (Nat.le_refl _) (Nat.le_refl _) (Nat.le_refl _) (by split <;> omega)
        have hw2 : mRs f bf w1 q v n n n v = va_cpy w1 w1 (qA q f bf + (l + 2 * wd)) (qA (1 - q) f bf + (l + 2 * wd)) (n - (l + 2 * wd)) := by
          unfold mRs; rw [if_pos (by omega), ev]
        rw [hw2] at cr2
        obtain ⟨gi', j1, j2⟩ := x_endPass (fu := fu) (nx := nx) (gi := gi2) (w := va_cpy w1 w1 (qA q f bf + (l + 2 * wd)) (qA (1 - q) f bf + (l + 2 * wd)) (n - (l + 2 * wd))) h hB h1 t2 t3 t5 t6 (by omega)
        refine ⟨gi', ?_, j2⟩
        simp +decide only [fX5_compareNext_128, fX5_goOnWithNextRows, rcv_x h, cr, gI_x h, e1.2.2.2.2.2.2.2.1, s1, t9, t10, c3, cr2, j1, Option.bind_some, bn2_s, zz_0, zz_1, if_true, if_false, ite_true, ite_false, vI_i, vR_n, vR_r, vR_v, reduceCtorEq]
    · have ev : v = n := by omega
      simp only [c1, if_false]
      have m1 : min (v + wd) n = n := by omega
      have m2 : min (v + 2 * wd) n = n := by omega
      rw [m1, m2] at s2
      obtain ⟨t2, t3, t5, t6, t7, t8, t9, t10, t11⟩ := id s2
      have c3 : ¬ nI n < nI n := nI_nlt (Nat.le_refl _) (by omega)
      have cr2 := x_copyRest (fu := fu) (nx := nx) (w := w1) h hB h1 s2 (by omega) (Nat.le_refl _) (Nat.le_refl _) (Nat.le_refl _) (by rw [if_neg (by omega)]; omega)
      have hw2 : mRs f bf w1 q v n n n v = w1 := by
        unfold mRs; rw [if_neg (by omega), Nat.sub_self, cpy_0]
      rw [hw2] at cr2
      obtain ⟨gi', j1, j2⟩ := x_endPass (fu := fu) (nx := nx) (gi := gi2) (w := w1) h hB h1 t2 t3 t5 t6 (by omega)
      refine ⟨gi', ?_, j2⟩
      simp +decide only [fX5_compareNext_128, fX5_goOnWithNextRows, rcv_x h, cr, gI_x h, e1.2.2.2.2.2.2.2.1, s1, t9, t10, c3, cr2, j1, Option.bind_some, bn2_s, zz_0, zz_1, if_true, if_false, ite_true, ite_false, vI_i, vR_n, vR_r, vR_v, reduceCtorEq]
theorem x_mergeStep (h : xS T F c nW sa ca ba 5 f n) (hB : xB T F nW ba bf n) {q wd l y u z v p : Nat} (e : eEq gi n 0 q wd y u z v p) (hv : mIv n q wd l y u z v p) :
    ∃ gi', fX5_compareNext fu (xs T F nx c sa ca ba 5 gi w) sa = some ((), xs T F nx c sa ca ba 5 gi' (mStp f bf n w q wd l y u z v p).1) ∧ gi' 2 = nI n ∧ gi' 3 = nI (mStp f bf n w q wd l y u z v p).2.2.2.2.2.2.2.2.2 ∧ ((mStp f bf n w q wd l y u z v p).2.2.2.2.2.2.2.2.2 = 0 → eEq gi' n 0 (mStp f bf n w q wd l y u z v p).2.1 (mStp f bf n w q wd l y u z v p).2.2.1 (mStp f bf n w q wd l y u z v p).2.2.2.2.1 (mStp f bf n w q wd l y u z v p).2.2.2.2.2.1 (mStp f bf n w q wd l y u z v p).2.2.2.2.2.2.1 (mStp f bf n w q wd l y u z v p).2.2.2.2.2.2.2.1 (mStp f bf n w q wd l y u z v p).2.2.2.2.2.2.2.2.1) := by
  have hf := h.2.2.2.2.2.2.2.2.2.2.1
  obtain ⟨⟨h1, h2, h3, h4, h5, h6, h7, h8, h9, h10, h11⟩, hy, hz⟩ := hv
  have e' := e
  obtain ⟨g2, g3, g5, g6, g7, g8, g9, g10, g11⟩ := e
  have l1 := qA_le (q := q) hf hB.2.2
  have l2 := qA_le (q := 1 - q) hf hB.2.2
  have r1 := x_read (fu := fu) (nx := nx) (xs_A (gi := gi) (w := w) h) (i := qA q f bf + y) (by omega)
  have r2 := x_read (fu := fu) (nx := nx) (xs_A (gi := gi) (w := w) h) (i := qA q f bf + z) (by omega)
  have w1 := fun x => x_write (fu := fu) (nx := nx) (xs_A (gi := gi) (w := w) h) (i := qA (1 - q) f bf + p) (by omega) x
  simp only [wF_wF] at w1
  simp +decide only [fX5_compareNext, gR_x0 h, rcv_x h, x_from h hB h1 g5, x_to h hB h1 g5, gI_x h, g7, g9, g11, rcv_mk h.1, nI_add, r1, r2, w1, Option.bind_some, bn2_s, zz_0, zz_1, if_true, if_false, ite_true, ite_false, vI_i, vR_n, vR_r, vR_v, reduceCtorEq, mStp]
  by_cases c1 : w (qA q f bf + z) < w (qA q f bf + y)
  · simp +decide only [c1, if_true, gI_x h, pV_x h, g9, nI_ad1, Option.bind_some, bn2_s, zz_0, zz_1, if_true, if_false, ite_true, ite_false, vI_i, vR_n, vR_r, vR_v, reduceCtorEq]
    exact x_mergeCt h hB (p0 := p) (by simp +decide only [eEq, ui_s, ui_n, g2, g3, g5, g6, g7, g8, g9, g10, g11, and_self]) rfl ⟨h1, h2, h3, h4, h5, h6, h7, h8, by omega, by omega, by omega⟩ (Or.inl hy)
  · simp +decide only [c1, if_false, gI_x h, pV_x h, g7, nI_ad1, Option.bind_some, bn2_s, zz_0, zz_1, if_true, if_false, ite_true, ite_false, vI_i, vR_n, vR_r, vR_v, reduceCtorEq]
    exact x_mergeCt h hB (p0 := p) (by simp +decide only [eEq, ui_s, ui_n, g2, g3, g5, g6, g7, g8, g9, g10, g11, and_self]) rfl ⟨h1, h2, h3, h4, h5, h6, by omega, by omega, h9, h10, by omega⟩ (Or.inr hz)
end XM
