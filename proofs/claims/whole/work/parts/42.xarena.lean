/-! the class's arena: words, chain of blocks -/
def wF (F : Nat → Nat → Value) (c : Nat) (w : Nat → Int32) : Nat → Nat → Value := fun q => if q = c + 2 then (fun i => .int (w i)) else F q
def xA (T : Nat → Option (Nat × Nat)) (F : Nat → Nat → Value) (c nW : Nat) (w : Nat → Int32) : Prop := kd T (c + 1) = some 0 ∧ kd T (c + 2) = some 10 ∧ ln T (c + 2) = nW ∧ nW ≤ 3000 ∧ kd T (c + 3) = some 1 ∧ F (c + 1) 0 = .ref (c + 2) ∧ F (c + 1) 1 = .ref (c + 3) ∧ F (c + 2) = fun i => .int (w i)
section XA
variable {T : Nat → Option (Nat × Nat)} {F : Nat → Nat → Value} {nx c nW fu : Nat} {w : Nat → Int32}
theorem wF_s : wF F c w (c + 2) = fun i => .int (w i) := by simp [wF]
theorem wF_n {q : Nat} (h : q ≠ c + 2) : wF F c w q = F q := by simp [wF, h]
theorem wF_self (h : F (c + 2) = fun i => .int (w i)) : wF F c w = F := by
  funext q
  by_cases e : q = c + 2
  · rw [e, wF_s, h]
  · rw [wF_n e]
theorem wF_wF (w' : Nat → Int32) : wF (wF F c w) c w' = wF F c w' := by
  funext q
  by_cases e : q = c + 2
  · rw [e, wF_s, wF_s]
  · rw [wF_n e, wF_n e, wF_n e]
theorem wF_u2 {i : Nat} {v : Int32} (h : F (c + 2) = fun i => .int (w i)) : u2 F (c + 2) i (.int v) = wF F c (upd w i v) := by
  funext q k
  by_cases e : q = c + 2
  · subst e
    rw [wF_s]
    by_cases e2 : k = i
    · subst e2; simp [u2, upd]
    · simp [u2, upd, e2, h]
  · rw [wF_n e]; simp [u2, e]
theorem xA.ww (h : xA T F c nW w) (w' : Nat → Int32) : xA T (wF F c w') c nW w' := by
  obtain ⟨h1, h2, h3, h4, h5, h6, h7, h8⟩ := h
  exact ⟨h1, h2, h3, h4, h5, by rw [wF_n (by omega)]; exact h6, by rw [wF_n (by omega)]; exact h7, wF_s⟩
theorem x_read (h : xA T F c nW w) {i : Nat} (hi : i < nW) : fX0_read fu (mkS T F nx) (c + 1) (nI i) = some (w i, mkS T F nx) := by
  obtain ⟨h1, h2, h3, h4, h5, h6, h7, h8⟩ := h
  have g0 : ¬ nI i < 0 := nI_pos (by omega)
  have g1 : ¬ nI nW ≤ nI i := nI_ge hi (by omega)
  have g2 := aI_mk (F := F) (nx := nx) h2 (i := i) (by omega) (by omega)
  rw [h8] at g2
  simp only [fX0_read, g0, gR_mk h1, h6, aL_mk h2, h3, g1, g2, Option.bind_some, bn2_s, zz_0, zz_1, if_true, if_false, ite_true, ite_false, vI_i, vR_n, vR_r, vR_v, reduceCtorEq]
theorem x_write (h : xA T F c nW w) {i : Nat} (hi : i < nW) (v : Int32) : fX0_write fu (mkS T F nx) (c + 1) (nI i) v = some ((), mkS T (wF F c (upd w i v)) nx) := by
  obtain ⟨h1, h2, h3, h4, h5, h6, h7, h8⟩ := h
  have g0 : ¬ nI i < 0 := nI_pos (by omega)
  have g1 : ¬ nI nW ≤ nI i := nI_ge hi (by omega)
  have g2 := sV_mk (F := F) (nx := nx) (v := .int v) h2 (i := i) (by omega) (by omega)
  rw [wF_u2 h8] at g2
  simp only [fX0_write, g0, gR_mk h1, h6, aL_mk h2, h3, g1, g2, Option.bind_some, bn2_s, zz_0, zz_1, if_true, if_false, ite_true, ite_false, vI_i, vR_n, vR_r, vR_v, reduceCtorEq]
theorem x_swap (h : xA T F c nW w) {i k : Nat} (hi : i < nW) (hk : k < nW) : fX0_swap fu (mkS T F nx) (c + 1) (nI i) (nI k) = some ((), mkS T (wF F c (upd (upd w i (w k)) k (w i))) nx) := by
  have hw := h.ww (upd w i (w k))
  obtain ⟨h1, h2, h3, h4, h5, h6, h7, h8⟩ := h
  have g0 : ¬ nI i < 0 := nI_pos (by omega)
  have g1 : ¬ nI nW ≤ nI i := nI_ge hi (by omega)
  have f0 : ¬ nI k < 0 := nI_pos (by omega)
  have f1 : ¬ nI nW ≤ nI k := nI_ge hk (by omega)
  have g2 := aI_mk (F := F) (nx := nx) h2 (i := i) (by omega) (by omega)
  rw [h8] at g2
  have f2 := aI_mk (F := F) (nx := nx) h2 (i := k) (by omega) (by omega)
  rw [h8] at f2
  have g3 := sV_mk (F := F) (nx := nx) (v := .int (w k)) h2 (i := i) (by omega) (by omega)
  rw [wF_u2 h8] at g3
  have g4 := sV_mk (F := wF F c (upd w i (w k))) (nx := nx) (v := .int (w i)) h2 (i := k) (by omega) (by omega)
  rw [wF_u2 hw.2.2.2.2.2.2.2, wF_wF] at g4
  simp only [fX0_swap, g0, f0, gR_mk h1, h6, hw.2.2.2.2.2.1, aL_mk h2, h3, g1, f1, g2, f2, g3, g4, Option.bind_some, bn2_s, zz_0, zz_1, if_true, if_false, ite_true, ite_false, vI_i, vR_n, vR_r, vR_v, reduceCtorEq]
theorem x_clear_loop (f n : Nat) : ∀ (m i : Nat) (w : Nat → Int32) (F : Nat → Nat → Value), xA T F c nW w → f + n ≤ nW → i ≤ n → n - i < m → fX0_clear_2 fu m (mkS T F nx) (c + 1) (nI f) (nI n) (nI i) = some ((), mkS T (wF F c (fun q => if f + i ≤ q ∧ q < f + n then 0 else w q)) nx) := by
  intro m
  induction m with
  | zero => intro i w F h h1 h2 h3; omega
  | succ m ih =>
    intro i w F h h1 h2 h3
    have h4 := h.2.2.2.1
    rw [fX0_clear_2]
    by_cases e : i = n
    · subst e
      rw [if_pos (nI_le (Nat.le_refl _) (by omega))]
      have : (fun q => if f + i ≤ q ∧ q < f + i then (0 : Int32) else w q) = w := by
        funext q; rw [if_neg (by omega)]
      rw [this, wF_self h.2.2.2.2.2.2.2]
    · rw [if_neg (nI_ge (by omega) (by omega))]
      have hw := x_write (fu := fu) (nx := nx) h (i := f + i) (by omega) 0
      simp only [rcv_mk h.1, nI_add, hw, nI_ad1, Option.bind_some, bn2_s, zz_0, zz_1, if_true, if_false, ite_true, ite_false, vI_i, vR_n, vR_r, vR_v, reduceCtorEq]
      rw [ih (i + 1) _ _ (h.ww _) h1 (by omega) (by omega), wF_wF]
      congr 4
      funext q
      by_cases e2 : q = f + i
      · subst e2
        rw [if_neg (by omega), if_pos (by omega)]
        simp [upd]
      · simp only [upd, e2, if_false]
        by_cases e3 : f + (i + 1) ≤ q ∧ q < f + n
        · rw [if_pos e3, if_pos (by omega)]
        · rw [if_neg e3, if_neg (by omega)]
theorem x_clear (h : xA T F c nW w) {f n : Nat} (hn : f + n ≤ nW) (hfu : n < fu) : fX0_clear fu (mkS T F nx) (c + 1) (nI f) (nI n) = some ((), mkS T (wF F c (fun q => if f ≤ q ∧ q < f + n then 0 else w q)) nx) := by
  rw [fX0_clear, show (0 : Int32) = nI 0 from rfl, x_clear_loop f n fu 0 w F h hn (by omega) (by omega)]
  rfl
theorem x_copy (h : xA T F c nW w) {f t n : Nat} (hf : f + n ≤ nW) (ht : t + n ≤ nW) (hn : 0 < n) : fX0_copy fu (mkS T F nx) (c + 1) (nI f) (nI t) (nI n) = some ((), mkS T (wF F c (va_cpy w w f t n)) nx) := by
  obtain ⟨h1, h2, h3, h4, h5, h6, h7, h8⟩ := h
  have g0 : ¬ nI n ≤ 0 := nI_nle hn (by omega)
  have g1 : ¬ nI f < 0 := nI_pos (by omega)
  have g2 : ¬ nI t < 0 := nI_pos (by omega)
  have g3 : ¬ nI (nW - n) < nI f := nI_nlt (by omega) (by omega)
  have g4 : ¬ nI (nW - n) < nI t := nI_nlt (by omega) (by omega)
  have g5 : nI nW - nI n = nI (nW - n) := pk_sub (by omega)
  have g6 := aC_mk (nx := nx) h2 h8 (sp := f) (dp := t) (n := n) (by omega) (by omega) (by omega)
  simp only [fX0_copy, gR_mk h1, h6, aL_mk h2, h3, g0, g1, g2, g5, g3, g4, g6, Option.bind_some, bn2_s, zz_0, zz_1, if_true, if_false, ite_true, ite_false, vI_i, vR_n, vR_r, vR_v, reduceCtorEq]
  rfl
theorem x_copy0 (h : xA T F c nW w) {x y : Int32} : fX0_copy fu (mkS T F nx) (c + 1) x y 0 = some ((), mkS T F nx) := by
  obtain ⟨h1, h2, h3, h4, h5, h6, h7, h8⟩ := h
  simp only [fX0_copy, gR_mk h1, h6, aL_mk h2, Option.bind_some, bn2_s, zz_0, zz_1, if_true, if_false, ite_true, ite_false, vI_i, vR_n, vR_r, vR_v, reduceCtorEq]
  rw [if_pos (by decide)]
end XA
