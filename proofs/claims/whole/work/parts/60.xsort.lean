/-! a way of sorting in the class: its object at sa, its ints gi; w the arena's words -/
def oF (F : Nat → Nat → Value) (sa : Nat) (g : Nat → Value) : Nat → Nat → Value := fun q => if q = sa then g else F q
def gS (c ca ba K : Nat) (gi : Nat → Int32) : Nat → Value := fun k => if k = 0 then .ref (c + 1) else if k = 1 then .ref ca else if k = 4 ∧ (K = 5 ∨ K = 6) then .ref ba else .int (gi k)
abbrev xs (T : Nat → Option (Nat × Nat)) (F : Nat → Nat → Value) (nx c sa ca ba K : Nat) (gi : Nat → Int32) (w : Nat → Int32) : hS := mkS T (wF (oF F sa (gS c ca ba K gi)) c w) nx
def xS (T : Nat → Option (Nat × Nat)) (F : Nat → Nat → Value) (c nW sa ca ba K f n : Nat) : Prop := kd T (c + 1) = some 0 ∧ kd T (c + 2) = some 10 ∧ ln T (c + 2) = nW ∧ nW ≤ 3000 ∧ kd T (c + 3) = some 1 ∧ F (c + 1) 0 = .ref (c + 2) ∧ F (c + 1) 1 = .ref (c + 3) ∧ kd T sa = some K ∧ kd T ca = some 1 ∧ F ca 0 = .int (nI f) ∧ f + n ≤ nW ∧ (K = 2 ∨ K = 3 ∨ K = 5 ∨ K = 6) ∧ n ≤ 1000
def sw (w : Nat → Int32) (a b : Nat) : Nat → Int32 := upd (upd w a (w b)) b (w a)
section XS
variable {T : Nat → Option (Nat × Nat)} {F : Nat → Nat → Value} {nx c nW fu sa ca ba K f n : Nat} {gi : Nat → Int32} {w : Nat → Int32}
theorem xS.ne (h : xS T F c nW sa ca ba K f n) : sa ≠ c + 1 ∧ sa ≠ c + 2 ∧ sa ≠ c + 3 ∧ sa ≠ ca ∧ ca ≠ c + 2 ∧ ca ≠ c + 1 := by
  obtain ⟨h1, h2, h3, h4, h5, h6, h7, h8, h9, h10, h11, h12, h13⟩ := h
  refine ⟨fun z => ?_, fun z => ?_, fun z => ?_, fun z => ?_, fun z => ?_, fun z => ?_⟩
  · rw [z, h1] at h8; cases h8; omega
  · rw [z, h2] at h8; cases h8; omega
  · rw [z, h5] at h8; cases h8; omega
  · rw [z, h9] at h8; cases h8; omega
  · rw [z, h2] at h9; cases h9
  · rw [z, h1] at h9; cases h9
theorem xs_sa (h : xS T F c nW sa ca ba K f n) : wF (oF F sa (gS c ca ba K gi)) c w sa = gS c ca ba K gi := by rw [wF_n h.ne.2.1]; simp [oF]
theorem xs_o (h : xS T F c nW sa ca ba K f n) {q : Nat} (h1 : q ≠ sa) (h2 : q ≠ c + 2) : wF (oF F sa (gS c ca ba K gi)) c w q = F q := by rw [wF_n h2]; simp [oF, h1]
theorem xs_A (h : xS T F c nW sa ca ba K f n) : xA T (wF (oF F sa (gS c ca ba K gi)) c w) c nW w := by
  obtain ⟨n1, n2, n3, n4, n5, n6⟩ := h.ne
  exact ⟨h.1, h.2.1, h.2.2.1, h.2.2.2.1, h.2.2.2.2.1, by rw [xs_o h (Ne.symm n1) (by omega)]; exact h.2.2.2.2.2.1, by rw [xs_o h (Ne.symm n1) (by omega)]; exact h.2.2.2.2.2.2.1, wF_s⟩
theorem xs_k (h : xS T F c nW sa ca ba K f n) : kd T sa = some K := h.2.2.2.2.2.2.2.1
theorem gI_x (h : xS T F c nW sa ca ba K f n) {k : Nat} (hk : k ≠ 0 ∧ k ≠ 1 ∧ ¬ (k = 4 ∧ (K = 5 ∨ K = 6))) : gI (xs T F nx c sa ca ba K gi w) K k (some sa) = some (gi k) := by
  rw [gI_mk (xs_k h), xs_sa h]; simp only [gS, hk, if_false, vI_i]
theorem gR_x0 (h : xS T F c nW sa ca ba K f n) : gR (xs T F nx c sa ca ba K gi w) K 0 (some sa) = some (some (c + 1)) := by
  rw [gR_mk (xs_k h), xs_sa h]; simp only [gS, if_true, vR_r]
theorem gR_x1 (h : xS T F c nW sa ca ba K f n) : gR (xs T F nx c sa ca ba K gi w) K 1 (some sa) = some (some ca) := by
  rw [gR_mk (xs_k h), xs_sa h]; simp [gS, vR_r]
theorem gR_x4 (h : xS T F c nW sa ca ba K f n) (hK : K = 5 ∨ K = 6) : gR (xs T F nx c sa ca ba K gi w) K 4 (some sa) = some (some ba) := by
  rw [gR_mk (xs_k h), xs_sa h]; simp [gS, vR_r, hK]
theorem rcv_x (h : xS T F c nW sa ca ba K f n) : rcv (xs T F nx c sa ca ba K gi w) K (some sa) = some sa := rcv_mk (xs_k h)
theorem pV_x (h : xS T F c nW sa ca ba K f n) {k : Nat} {x : Int32} (hk : k ≠ 0 ∧ k ≠ 1 ∧ ¬ (k = 4 ∧ (K = 5 ∨ K = 6))) : pV (xs T F nx c sa ca ba K gi w) K k (some sa) (.int x) = some (xs T F nx c sa ca ba K (ui gi k x) w) := by
  rw [pV_mk (xs_k h)]
  congr 2
  funext q k'
  have n2 := h.ne.2.1
  by_cases e : q = sa
  · subst e
    rw [xs_sa h]
    by_cases e2 : k' = k
    · subst e2
      simp only [u2, and_self, if_true, gS, hk, if_false, ui_s]
    · simp only [u2, e2, and_false, if_false]
      rw [xs_sa h]
      simp only [gS]
      rw [ui_n _ _ e2]
  · simp only [u2, e, false_and, if_false, wF, oF]
theorem hk4_x (h : xS T F c nW sa ca ba K f n) : hk4 (xs T F nx c sa ca ba K gi w) (some sa) = K := by
  have := kd_T (xs_k h)
  simp only [hk4, mkS, this, Option.map_some]
  rw [if_pos h.2.2.2.2.2.2.2.2.2.2.2.1]
theorem hK99 (h : xS T F c nW sa ca ba K f n) : ¬ K = 99 := by have := h.2.2.2.2.2.2.2.2.2.2.2.1; omega
theorem gR4_x0 (h : xS T F c nW sa ca ba K f n) : gR4 (xs T F nx c sa ca ba K gi w) 0 (some sa) = some (some (c + 1)) := by
  simp only [gR4, hk4_x h, hK99 h, if_false, gR_x0 h]
theorem gR4_x1 (h : xS T F c nW sa ca ba K f n) : gR4 (xs T F nx c sa ca ba K gi w) 1 (some sa) = some (some ca) := by
  simp only [gR4, hk4_x h, hK99 h, if_false, gR_x1 h]
theorem gI4_x3 (h : xS T F c nW sa ca ba K f n) : gI4 (xs T F nx c sa ca ba K gi w) 3 (some sa) = some (gi 3) := by
  simp only [gI4, hk4_x h, hK99 h, if_false]
  exact gI_x h (by omega)
theorem xs_ca (h : xS T F c nW sa ca ba K f n) : gI (xs T F nx c sa ca ba K gi w) 1 0 (some ca) = some (nI f) := by
  obtain ⟨n1, n2, n3, n4, n5, n6⟩ := h.ne
  rw [gI_mk h.2.2.2.2.2.2.2.2.1, xs_o h (Ne.symm n4) n5, h.2.2.2.2.2.2.2.2.2.1]; rfl
theorem x_cell (h : xS T F c nW sa ca ba K f n) {i : Nat} (hi : i < n) : fX8_cell fu (xs T F nx c sa ca ba K gi w) sa (nI i) = some (w (f + i), xs T F nx c sa ca ba K gi w) := by
  have hf := h.2.2.2.2.2.2.2.2.2.2.1
  have hr := x_read (fu := fu) (nx := nx) (xs_A (gi := gi) (w := w) h) (i := f + i) (by omega)
  simp only [fX8_cell, gR4_x0 h, gR4_x1 h, xs_ca h, rcv_mk h.1, nI_add, hr, Option.bind_some, bn2_s, zz_0, zz_1, if_true, if_false, ite_true, ite_false, vI_i, vR_n, vR_r, vR_v, reduceCtorEq]
theorem x_swap8 (h : xS T F c nW sa ca ba K f n) {i k : Nat} (hi : i < n) (hk : k < n) : fX8_swap fu (xs T F nx c sa ca ba K gi w) sa (nI i) (nI k) = some ((), xs T F nx c sa ca ba K gi (sw w (f + i) (f + k))) := by
  have hf := h.2.2.2.2.2.2.2.2.2.2.1
  have hr := x_swap (fu := fu) (nx := nx) (xs_A (gi := gi) (w := w) h) (i := f + i) (k := f + k) (by omega) (by omega)
  rw [wF_wF] at hr
  simp only [fX8_swap, gR4_x0 h, gR4_x1 h, xs_ca h, rcv_mk h.1, nI_add, hr, Option.bind_some, bn2_s, zz_0, zz_1, if_true, if_false, ite_true, ite_false, vI_i, vR_n, vR_r, vR_v, reduceCtorEq]
  rfl
end XS
section XG
variable {T : Nat → Option (Nat × Nat)} {F : Nat → Nat → Value} {nx c nW fu sa ca ba f n : Nat} {gi : Nat → Int32} {w : Nat → Int32}
def gEq (gi : Nat → Int32) (n g i k o : Nat) : Prop := gi 2 = nI n ∧ gi 3 = nI o ∧ gi 4 = nI g ∧ gi 5 = nI i ∧ gi 6 = nI k
/-- on with the next number: gap, i, over -/
def gNx (n g i : Nat) : Nat × Nat × Nat := if i + 1 < n then (g, i + 1, 0) else ((g - 1) / 3, (g - 1) / 3, if 0 < (g - 1) / 3 then 0 else 1)
theorem x_gapNext (h : xS T F c nW sa ca ba 2 f n) {g i k : Nat} (hg : gEq gi n g i k 0) (g1 : 1 ≤ g) (g2 : g ≤ 1000) (g3 : i < n) : ∃ gi', fX2_goOnWithNextNumber fu (xs T F nx c sa ca ba 2 gi w) sa = some ((), xs T F nx c sa ca ba 2 gi' w) ∧ gEq gi' n (gNx n g i).1 (gNx n g i).2.1 (gNx n g i).2.1 (gNx n g i).2.2 := by
  have hn := h.2.2.2.2.2.2.2.2.2.2.2.2
  obtain ⟨e2, e3, e4, e5, e6⟩ := hg
  simp +decide only [fX2_goOnWithNextNumber, fX2_goOnWithNextNumber_54, fX2_goOnWithNextNumber_57, gI_x h, pV_x h, e5, e2, e4, ui_s, ui_n, nI_ad1, Option.bind_some, bn2_s, zz_0, zz_1, if_true, if_false, ite_true, ite_false, vI_i, vR_n, vR_r, vR_v, reduceCtorEq, gNx]
  by_cases c1 : i + 1 < n
  · rw [if_pos (nI_lt c1 (by omega)), if_pos c1]
    refine ⟨_, rfl, ?_⟩
    simp +decide only [gEq, ui_s, ui_n, e2, e3, e4, and_self]
  · rw [if_neg (nI_nlt (by omega) (by omega)), if_neg c1]
    have d1 : nI g - (1 : Int32) = nI (g - 1) := pk_sub (b := 1) g1
    have d2 : nI (g - 1) / (3 : Int32) = nI ((g - 1) / 3) := pk_div (d := 3) (by omega) (by omega) (by omega)
    simp only [d1, d2]
    by_cases c2 : 0 < (g - 1) / 3
    · have c3 : (0 : Int32) < nI ((g - 1) / 3) := nI_lt (a := 0) c2 (by omega)
      rw [if_pos c3, if_pos c2]
      refine ⟨_, rfl, ?_⟩
      simp +decide only [gEq, ui_s, ui_n, e2, e3, e4, and_self]
    · have : (g - 1) / 3 = 0 := by omega
      rw [if_neg c2, this, if_neg (by decide)]
      refine ⟨_, rfl, ?_⟩
      simp +decide only [gEq, ui_s, ui_n, e2, e3, e4, and_self]
/-- one comparison of SHELL: words, gap, i, j, over -/
def gSt (w : Nat → Int32) (f n g i k : Nat) : (Nat → Int32) × Nat × Nat × Nat × Nat :=
  if w (f + (k - g)) ≤ w (f + k) then (w, (gNx n g i).1, (gNx n g i).2.1, (gNx n g i).2.1, (gNx n g i).2.2)
  else if g ≤ k - g then (sw w (f + (k - g)) (f + k), g, i, k - g, 0)
  else (sw w (f + (k - g)) (f + k), (gNx n g i).1, (gNx n g i).2.1, (gNx n g i).2.1, (gNx n g i).2.2)
theorem x_gapStep (h : xS T F c nW sa ca ba 2 f n) {g i k : Nat} (hg : gEq gi n g i k 0) (g1 : 1 ≤ g) (g2 : g ≤ k) (g3 : k ≤ i) (g4 : i < n) : ∃ gi', fX2_compareNext fu (xs T F nx c sa ca ba 2 gi w) sa = some ((), xs T F nx c sa ca ba 2 gi' (gSt w f n g i k).1) ∧ gEq gi' n (gSt w f n g i k).2.1 (gSt w f n g i k).2.2.1 (gSt w f n g i k).2.2.2.1 (gSt w f n g i k).2.2.2.2 := by
  have hn := h.2.2.2.2.2.2.2.2.2.2.2.2
  have hg0 := hg
  obtain ⟨e2, e3, e4, e5, e6⟩ := hg
  have d1 : nI k - nI g = nI (k - g) := pk_sub g2
  have c1 := x_cell (fu := fu) (nx := nx) (gi := gi) (w := w) h (i := k - g) (by omega)
  have c2 := x_cell (fu := fu) (nx := nx) (gi := gi) (w := w) h (i := k) (by omega)
  have s1 := x_swap8 (fu := fu) (nx := nx) (gi := gi) (w := w) h (i := k - g) (k := k) (by omega) (by omega)
  simp +decide only [fX2_compareNext, gI_x h, rcv_x h, e4, e6, d1, c1, c2, Option.bind_some, bn2_s, zz_0, zz_1, if_true, if_false, ite_true, ite_false, vI_i, vR_n, vR_r, vR_v, reduceCtorEq, gSt]
  by_cases b1 : w (f + (k - g)) ≤ w (f + k)
  · rw [if_pos b1]
    simp only [b1, if_true]
    obtain ⟨gi', j1, j2⟩ := x_gapNext (fu := fu) (nx := nx) (w := w) h hg0 g1 (by omega) g4
    refine ⟨gi', ?_, j2⟩
    simp +decide only [fX2_compareNext_29, fX2_compareNext_64, fX2_compareNext_79, rcv_x h, j1, Option.bind_some, bn2_s, zz_0, zz_1, if_true, if_false, ite_true, ite_false, vI_i, vR_n, vR_r, vR_v, reduceCtorEq]
  · rw [if_neg b1]
    simp only [b1, if_false]
    by_cases b2 : g ≤ k - g
    · simp only [b2, if_true]
      refine ⟨ui gi 6 (nI (k - g)), ?_, ?_⟩
      · simp +decide only [fX2_compareNext_29, fX2_compareNext_64, gI_x h, rcv_x h, pV_x h, e4, e6, d1, s1, ui_s, ui_n, Option.bind_some, bn2_s, zz_0, zz_1, if_true, if_false, ite_true, ite_false, vI_i, vR_n, vR_r, vR_v, reduceCtorEq]
        rw [if_pos (nI_le b2 (by omega))]
      · simp +decide only [gEq, ui_s, ui_n, e2, e3, e4, e5, and_self]
    · simp only [b2, if_false]
      have hg2 : gEq (ui gi 6 (nI (k - g))) n g i (k - g) 0 := by simp +decide only [gEq, ui_s, ui_n, e2, e3, e4, e5, and_self]
      obtain ⟨gi', j1, j2⟩ := x_gapNext (fu := fu) (nx := nx) (w := sw w (f + (k - g)) (f + k)) h hg2 g1 (by omega) g4
      refine ⟨gi', ?_, j2⟩
      simp +decide only [fX2_compareNext_29, fX2_compareNext_64, fX2_compareNext_79, gI_x h, rcv_x h, pV_x h, e4, e6, d1, s1, ui_s, ui_n, Option.bind_some, bn2_s, zz_0, zz_1, if_true, if_false, ite_true, ite_false, vI_i, vR_n, vR_r, vR_v, reduceCtorEq]
      rw [if_neg (nI_ge (by omega) (by omega))]
      simp +decide only [rcv_x h, j1, Option.bind_some, bn2_s, zz_0, zz_1, if_true, if_false, ite_true, ite_false, vI_i, vR_n, vR_r, vR_v, reduceCtorEq]
end XG
