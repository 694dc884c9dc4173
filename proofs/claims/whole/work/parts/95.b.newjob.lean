def t3 (T : Nat → Option (Nat × Nat)) (nx : Nat) : Nat → Option (Nat × Nat) := tN (tN (tN T nx 4) (nx + 1) 1) (nx + 2) 1
section NJ
variable {T : Nat → Option (Nat × Nat)} {F G : Nat → Nat → Value} {nx nx2 c nW nJ fu j n e z st : Nat} {fi : Nat → Int32} {ar : Nat → Nat → Int32} {ad da : Nat → Nat} {w : Nat → Int32} {bl : bL} {ql : List Nat}
theorem t3_o {q : Nat} (h : q ≠ nx ∧ q ≠ nx + 1 ∧ q ≠ nx + 2) : t3 T nx q = T q := by simp [t3, tN, h]
theorem t3_kd (hT : ∀ q, nx ≤ q → T q = none) (q k : Nat) (h : kd T q = some k) : kd (t3 T nx) q = some k := by
  have : q < nx := by
    by_cases c : q < nx
    · exact c
    · simp [kd, hT q (by omega)] at h
  simp only [kd, t3_o (show q ≠ nx ∧ q ≠ nx + 1 ∧ q ≠ nx + 2 by omega)]; exact h
theorem t3_0 : kd (t3 T nx) nx = some 4 := by simp [kd, t3, tN]
theorem t3_1 : kd (t3 T nx) (nx + 1) = some 1 := by simp [kd, t3, tN]
theorem t3_2 : kd (t3 T nx) (nx + 2) = some 1 := by simp [kd, t3, tN]
theorem x_newJob (hT : ∀ q, nx ≤ q → T q = none) (a b p : Int32) : ∃ F3, fX4_init fu (nO (mkS T F nx) 4) nx a b p = some ((), mkS (t3 T nx) F3 (nx + 3)) ∧ (∀ q, q < nx → F3 q = F q) ∧ F3 nx 0 = .int a ∧ F3 nx 1 = .int b ∧ F3 nx 2 = .ref (nx + 1) ∧ F3 nx 3 = .ref (nx + 2) ∧ F3 nx 4 = .int p ∧ F3 nx 5 = .int 1 ∧ F3 nx 6 = .int 0 ∧ F3 nx 7 = .int (-1) ∧ F3 nx 8 = .int (-1) ∧ F3 (nx + 1) 0 = .int (-1) ∧ F3 (nx + 1) 1 = .int 0 ∧ F3 (nx + 2) 0 = .int (-1) ∧ F3 (nx + 2) 1 = .int 0 := by
  have h0 := hT nx (by omega)
  have h1 : tN T nx 4 (nx + 1) = none := by simp [tN, hT (nx + 1) (by omega)]
  have h2 : tN (tN T nx 4) (nx + 1) 1 (nx + 2) = none := by simp [tN, hT (nx + 2) (by omega)]
  have n1 : nO (mkS T F nx) 4 = mkS (tN T nx 4) (oF F nx (hdf 4)) (nx + 1) := nO_mk h0
  have n2 : ∀ F, nO (mkS (tN T nx 4) F (nx + 1)) 1 = mkS (tN (tN T nx 4) (nx + 1) 1) (oF F (nx + 1) (hdf 1)) (nx + 2) := fun F => nO_mk h1
  have n3 : ∀ F, nO (mkS (tN (tN T nx 4) (nx + 1) 1) F (nx + 2)) 1 = mkS (t3 T nx) (oF F (nx + 2) (hdf 1)) (nx + 3) := fun F => nO_mk h2
  have k1 : kd (tN T nx 4) nx = some 4 := tN_s
  have k2 : kd (tN (tN T nx 4) (nx + 1) 1) nx = some 4 := by simp [kd, tN]
  have k3 : kd (tN (tN T nx 4) (nx + 1) 1) (nx + 1) = some 1 := by simp [kd, tN]
  refine ⟨u2 (u2 (u2 (u2 (u2 (oF (u2 (u2 (oF (u2 (u2 (u2 (oF F nx (hdf 4)) nx 0 (.int a)) nx 1 (.int b)) nx 4 (.int p)) (nx + 1) (hdf 1)) (nx + 1) 0 (.int (-1))) nx 2 (.ref (nx + 1))) (nx + 2) (hdf 1)) (nx + 2) 0 (.int (-1))) nx 3 (.ref (nx + 2))) nx 5 (.int 1)) nx 7 (.int (-1))) nx 8 (.int (-1)), ?_, ?_⟩
  · simp only [fX4_init, fX1_init, n1, n2, n3, pV_mk k1, pV_mk k2, pV_mk k3, pV_mk (t3_0 (T := T) (nx := nx)), pV_mk (t3_2 (T := T) (nx := nx)), mkS_2, va_rf, Option.bind_some, bn2_s, zz_0, zz_1, if_true, if_false, ite_true, ite_false, vI_i, vR_n, vR_r, vR_v, reduceCtorEq]
  · have e1 : ¬ nx = nx + 1 := by omega
    have e2 : ¬ nx = nx + 2 := by omega
    have e3 : ¬ nx + 1 = nx := by omega
    have e4 : ¬ nx + 1 = nx + 2 := by omega
    have e5 : ¬ nx + 2 = nx := by omega
    have e6 : ¬ nx + 2 = nx + 1 := by omega
    refine ⟨fun q hq => ?_, ?_, ?_, ?_, ?_, ?_, ?_, ?_, ?_, ?_, ?_, ?_, ?_, ?_⟩
    · have f1 : ¬ q = nx := by omega
      have f2 : ¬ q = nx + 1 := by omega
      have f3 : ¬ q = nx + 2 := by omega
      funext k
      simp only [u2, oF, f1, f2, f3, false_and, if_false]
    all_goals simp +decide only [u2, oF, e1, e2, e3, e4, e5, e6, true_and, and_true, false_and, and_false, if_true, if_false, and_self]
    all_goals rfl
/-- the least free number -/
theorem lf_cs (ar : Nat → Nat → Int32) (nJ : Nat) : (∀ k, k < nJ → ar 4 k ≠ 0) ∨ ∃ j, j < nJ ∧ ar 4 j = 0 ∧ ∀ k, k < j → ar 4 k ≠ 0 := by
  induction nJ with
  | zero => exact Or.inl (fun k hk => by omega)
  | succ m ih =>
    rcases ih with ih | ⟨j, h1, h2, h3⟩
    · by_cases c : ar 4 m = 0
      · exact Or.inr ⟨m, by omega, c, ih⟩
      · exact Or.inl (fun k hk => by
          by_cases e : k = m
          · rw [e]; exact c
          · exact ih k (by omega))
    · exact Or.inr ⟨j, by omega, h2, h3⟩
theorem x_lf (hX : XI T F nx c nW nJ fi ar ad da bl ql) (hJ : nJ ≤ 24) : ∀ (r m i : Nat), i + r = nJ → r < m →
    ((∀ k, i ≤ k → k < nJ → ar 4 k ≠ 0) → fX9_leastFreeNumber_2 fu m (mkS T F nx) c (nI i) = some (-1, mkS T F nx)) ∧
    (∀ j, i ≤ j → j < nJ → ar 4 j = 0 → (∀ k, i ≤ k → k < j → ar 4 k ≠ 0) → fX9_leastFreeNumber_2 fu m (mkS T F nx) c (nI i) = some (nI j, mkS T F nx)) := by
  obtain ⟨⟨hA, s2, s3, s4, s5, s6, s7, s8, s9, s10, s11, s12, s13⟩, h2, h3, h4, h5, h6⟩ := hX
  have hl := aL_mk (F := F) (nx := nx) s11
  intro r
  induction r with
  | zero =>
    intro m i h1 h2
    obtain ⟨m, rfl⟩ : ∃ k, m = k + 1 := ⟨m - 1, by omega⟩
    have c : nI nJ ≤ nI i := nI_le (by omega) (by omega)
    refine ⟨fun _ => ?_, fun j a b => by omega⟩
    simp only [fX9_leastFreeNumber_2, gR_mk s2, s4, hl, s12, c, Option.bind_some, bn2_s, zz_0, zz_1, if_true, if_false, ite_true, ite_false, vI_i, vR_n, vR_r, vR_v, reduceCtorEq]
  | succ r ih =>
    intro m i h1 h2
    obtain ⟨m, rfl⟩ : ∃ k, m = k + 1 := ⟨m - 1, by omega⟩
    have c : ¬ nI nJ ≤ nI i := nI_ge (by omega) (by omega)
    have e2 := aR_mk (F := F) (nx := nx) s11 (i := i) (by omega) (by omega)
    have e3 := (h4 i).1 (by omega)
    obtain ⟨st, go⟩ := ih m (i + 1) (by omega) (by omega)
    refine ⟨fun ha => ?_, fun j a b d e => ?_⟩
    · rw [if_neg (ha i (by omega) (by omega))] at e3
      simp only [fX9_leastFreeNumber_2, gR_mk s2, s4, hl, s12, c, e2, e3, nI_ad1, Option.bind_some, bn2_s, zz_0, zz_1, if_true, if_false, ite_true, ite_false, vI_i, vR_n, vR_r, vR_v, reduceCtorEq]
      exact st (fun k k1 k2 => ha k (by omega) k2)
    · by_cases ei : i = j
      · subst ei
        rw [if_pos d] at e3
        simp only [fX9_leastFreeNumber_2, gR_mk s2, s4, hl, s12, c, e2, e3, Option.bind_some, bn2_s, zz_0, zz_1, if_true, if_false, ite_true, ite_false, vI_i, vR_n, vR_r, vR_v, reduceCtorEq]
      · rw [if_neg (e i (by omega) (by omega))] at e3
        simp only [fX9_leastFreeNumber_2, gR_mk s2, s4, hl, s12, c, e2, e3, nI_ad1, Option.bind_some, bn2_s, zz_0, zz_1, if_true, if_false, ite_true, ite_false, vI_i, vR_n, vR_r, vR_v, reduceCtorEq]
        exact go j (by omega) b d (fun k k1 k2 => e k (by omega) k2)
theorem m_lf (hT : mT T z nW) (f1 : fi 1 = nI nJ) (hJ : nJ ≤ 24) {x1 x2 x3 : Int32} : ∀ (r m i : Nat), i + r = nJ → r < m →
    ((∀ k, i ≤ k → k < nJ → ar 4 k ≠ 0) → fX10_open_35 fu m (mw T G nx z fi ar) z x1 x2 x3 (nI i) = some (-5, mw T G nx z fi ar)) ∧
    (∀ j, i ≤ j → j < nJ → ar 4 j = 0 → (∀ k, i ≤ k → k < j → ar 4 k ≠ 0) → fX10_open_35 fu m (mw T G nx z fi ar) z x1 x2 x3 (nI i) = fX10_open_59 fu (mw T G nx z fi ar) z x1 x2 x3 (nI j)) := by
  intro r
  induction r with
  | zero =>
    intro m i h1 h2
    obtain ⟨m, rfl⟩ : ∃ k, m = k + 1 := ⟨m - 1, by omega⟩
    have e : i = nJ := by omega
    subst e
    have c : nI i ≤ nI i := nI_le (by omega) (by omega)
    refine ⟨fun _ => ?_, fun j a b => by omega⟩
    simp +decide only [fX10_open_35, fX10_open_59, Option.bind_some, bn2_s, zz_0, zz_1, if_true, if_false, ite_true, ite_false, vI_i, vR_n, vR_r, vR_v, reduceCtorEq, gI_m hT, gR_m hT, rcv_m hT, pV_m hT, aI_24 hT, sV_24 hT, aI_3 hT, sV_3 hT, aI_18 hT, sV_18 hT, aI_19 hT, sV_19 hT, aI_mZ hT, sV_mZ hT, ui_s, ui_n, ua_s, ua_k, f1, c]
  | succ r ih =>
    intro m i h1 h2
    obtain ⟨m, rfl⟩ : ∃ k, m = k + 1 := ⟨m - 1, by omega⟩
    have c : ¬ nI nJ ≤ nI i := nI_ge (by omega) (by omega)
    have hh := m_has (fu := fu) (G := G) (nx := nx) (fi := fi) (ar := ar) hT (j := i) (by omega)
    obtain ⟨st, go⟩ := ih m (i + 1) (by omega) (by omega)
    refine ⟨fun ha => ?_, fun j a b d e => ?_⟩
    · rw [if_neg (ha i (by omega) (by omega))] at hh
      simp +decide only [fX10_open_35, Option.bind_some, bn2_s, zz_0, zz_1, if_true, if_false, ite_true, ite_false, vI_i, vR_n, vR_r, vR_v, reduceCtorEq, gI_m hT, gR_m hT, rcv_m hT, pV_m hT, aI_24 hT, sV_24 hT, aI_3 hT, sV_3 hT, aI_18 hT, sV_18 hT, aI_19 hT, sV_19 hT, aI_mZ hT, sV_mZ hT, ui_s, ui_n, ua_s, ua_k, f1, c, hh, nI_ad1]
      exact st (fun k k1 k2 => ha k (by omega) k2)
    · by_cases ei : i = j
      · subst ei
        rw [if_pos d] at hh
        simp +decide only [fX10_open_35, Option.bind_some, bn2_s, zz_0, zz_1, if_true, if_false, ite_true, ite_false, vI_i, vR_n, vR_r, vR_v, reduceCtorEq, gI_m hT, gR_m hT, rcv_m hT, pV_m hT, aI_24 hT, sV_24 hT, aI_3 hT, sV_3 hT, aI_18 hT, sV_18 hT, aI_19 hT, sV_19 hT, aI_mZ hT, sV_mZ hT, ui_s, ui_n, ua_s, ua_k, f1, c, hh]
      · rw [if_neg (e i (by omega) (by omega))] at hh
        simp +decide only [fX10_open_35, Option.bind_some, bn2_s, zz_0, zz_1, if_true, if_false, ite_true, ite_false, vI_i, vR_n, vR_r, vR_v, reduceCtorEq, gI_m hT, gR_m hT, rcv_m hT, pV_m hT, aI_24 hT, sV_24 hT, aI_3 hT, sV_3 hT, aI_18 hT, sV_18 hT, aI_19 hT, sV_19 hT, aI_mZ hT, sV_mZ hT, ui_s, ui_n, ua_s, ua_k, f1, c, hh, nI_ad1]
        exact go j (by omega) b d (fun k k1 k2 => e k (by omega) k2)
def clW (w : Nat → Int32) (e n : Nat) : Nat → Int32 := fun q => if e ≤ q ∧ q < e + n then 0 else w q
theorem m_clr (hT : mT T z nW) (hj : j < 24) (h9 : ar 9 j = nI e) (hn : e + n ≤ nW) : ∀ (r m i : Nat) (w : Nat → Int32), i + r = n → r < m → fX10_open_151 fu m (mw T G nx z fi (aw ar w)) z (nI n) (nI j) (nI i) = some (nI j, mw T G nx z fi (aw ar (fun q => if e + i ≤ q ∧ q < e + n then 0 else w q))) := by
  have hW := hT.2.1
  intro r
  induction r with
  | zero =>
    intro m i w h1 h2
    obtain ⟨m, rfl⟩ : ∃ k, m = k + 1 := ⟨m - 1, by omega⟩
    have c : nI n ≤ nI i := nI_le (by omega) (by omega)
    have ew : (fun q => if e + i ≤ q ∧ q < e + n then 0 else w q) = w := by
      funext q; rw [if_neg (by omega)]
    simp only [fX10_open_151, c, if_true, ew]
  | succ r ih =>
    intro m i w h1 h2
    obtain ⟨m, rfl⟩ : ∃ k, m = k + 1 := ⟨m - 1, by omega⟩
    have c : ¬ nI n ≤ nI i := nI_ge (by omega) (by omega)
    have hi : e + i < nW := by omega
    have := ih m (i + 1) (upd w (e + i) 0) (by omega) (by omega)
    simp +decide only [fX10_open_151, c, Option.bind_some, bn2_s, zz_0, zz_1, if_true, if_false, ite_true, ite_false, vI_i, vR_n, vR_r, vR_v, reduceCtorEq, gI_m hT, gR_m hT, rcv_m hT, pV_m hT, aI_24 hT, sV_24 hT, aI_3 hT, sV_3 hT, aI_18 hT, sV_18 hT, aI_19 hT, sV_19 hT, aI_mZ hT, sV_mZ hT, ui_s, ui_n, ua_s, ua_k, aw_n, h9, hj, nI_add, hi, ua_aw, nI_ad1]
    rw [this]
    congr 4
    funext q
    simp only [upd]
    by_cases e1 : q = e + i
    · subst e1; rw [if_neg (by omega), if_pos rfl, if_pos (by omega)]
    · by_cases e2 : e + (i + 1) ≤ q ∧ q < e + n
      · rw [if_pos e2, if_pos (by omega)]
      · rw [if_neg e2, if_neg e1, if_neg (by omega)]
theorem x_clr0 (S : hS) (a0 : Nat) (x : Int32) (hfu : 0 < fu) : fX0_clear fu S a0 x 0 = some ((), S) := by
  obtain ⟨m, rfl⟩ : ∃ k, fu = k + 1 := ⟨fu - 1, by omega⟩
  have : (0 : Int32) ≤ 0 := by decide
  simp only [fX0_clear, fX0_clear_2, this, if_true]
end NJ
