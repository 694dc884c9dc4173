def mM (T : Nat → Option (Nat × Nat)) (z nW : Nat) (fi : Nat → Int32) (ar : Nat → Nat → Int32) (j f n bf : Nat) : Prop := mS T z nW fi ar j f n ∧ ar 10 j = nI bf ∧ bf + n ≤ nW ∧ (f + n ≤ bf ∨ bf + n ≤ f)
def mfE (fi : Nat → Int32) (q wd l y u z v p : Nat) : Prop := fi 28 = nI q ∧ fi 31 = nI wd ∧ fi 22 = nI l ∧ fi 23 = nI y ∧ fi 25 = nI u ∧ fi 24 = nI z ∧ fi 26 = nI v ∧ fi 27 = nI p
section MM
variable {T : Nat → Option (Nat × Nat)} {G : Nat → Nat → Value} {nx z nW fu j f n bf : Nat} {fi : Nat → Int32} {ar : Nat → Nat → Int32} {w : Nat → Int32}
theorem mM.fx (h : mM T z nW fi ar j f n bf) {fi' : Nat → Int32} (he : fEq fi fi') : mM T z nW fi' ar j f n bf := ⟨h.1.fx he, h.2⟩
theorem qA_dis {q : Nat} (h : f + n ≤ bf ∨ bf + n ≤ f) (hq : q ≤ 1) : qA q f bf + n ≤ qA (1 - q) f bf ∨ qA (1 - q) f bf + n ≤ qA q f bf := by
  have : q = 0 ∨ q = 1 := by omega
  rcases this with rfl | rfl
  · simp [qA]; exact h
  · simp [qA]; omega
theorem m_source (h : mM T z nW fi ar j f n bf) {q : Nat} (hq : q ≤ 1) (e : fi 28 = nI q) : fX10_source fu (mw T G nx z fi (aw ar w)) z = some (nI (qA q f bf), mw T G nx z fi (aw ar w)) := by
  obtain ⟨⟨hT, h1, h2, h3, h4, h5, h6⟩, h7, h8, h9⟩ := h
  have a9 : aw ar w 9 j = nI f := by rw [aw_n _ _ (by decide)]; exact h3
  have a10 : aw ar w 10 j = nI bf := by rw [aw_n _ _ (by decide)]; exact h7
  have : q = 0 ∨ q = 1 := by omega
  rcases this with rfl | rfl
  · simp +decide only [fX10_source, Option.bind_some, bn2_s, zz_0, zz_1, if_true, if_false, ite_true, ite_false, vI_i, vR_n, vR_r, vR_v, reduceCtorEq, gI_m hT, gR_m hT, rcv_m hT, pV_m hT, aI_24 hT, sV_24 hT, aI_3 hT, sV_3 hT, aI_18 hT, sV_18 hT, aI_19 hT, sV_19 hT, aI_mZ hT, sV_mZ hT, ui_s, ui_n, ua_s, ua_k, e, h1, h2, a9, qA]
  · simp +decide only [fX10_source, Option.bind_some, bn2_s, zz_0, zz_1, if_true, if_false, ite_true, ite_false, vI_i, vR_n, vR_r, vR_v, reduceCtorEq, gI_m hT, gR_m hT, rcv_m hT, pV_m hT, aI_24 hT, sV_24 hT, aI_3 hT, sV_3 hT, aI_18 hT, sV_18 hT, aI_19 hT, sV_19 hT, aI_mZ hT, sV_mZ hT, ui_s, ui_n, ua_s, ua_k, e, h1, h2, a10, qA]
theorem m_target (h : mM T z nW fi ar j f n bf) {q : Nat} (hq : q ≤ 1) (e : fi 28 = nI q) : fX10_target fu (mw T G nx z fi (aw ar w)) z = some (nI (qA (1 - q) f bf), mw T G nx z fi (aw ar w)) := by
  obtain ⟨⟨hT, h1, h2, h3, h4, h5, h6⟩, h7, h8, h9⟩ := h
  have a9 : aw ar w 9 j = nI f := by rw [aw_n _ _ (by decide)]; exact h3
  have a10 : aw ar w 10 j = nI bf := by rw [aw_n _ _ (by decide)]; exact h7
  have : q = 0 ∨ q = 1 := by omega
  rcases this with rfl | rfl
  · simp +decide only [fX10_target, Option.bind_some, bn2_s, zz_0, zz_1, if_true, if_false, ite_true, ite_false, vI_i, vR_n, vR_r, vR_v, reduceCtorEq, gI_m hT, gR_m hT, rcv_m hT, pV_m hT, aI_24 hT, sV_24 hT, aI_3 hT, sV_3 hT, aI_18 hT, sV_18 hT, aI_19 hT, sV_19 hT, aI_mZ hT, sV_mZ hT, ui_s, ui_n, ua_s, ua_k, e, h1, h2, a10, qA]
  · simp +decide only [fX10_target, Option.bind_some, bn2_s, zz_0, zz_1, if_true, if_false, ite_true, ite_false, vI_i, vR_n, vR_r, vR_v, reduceCtorEq, gI_m hT, gR_m hT, rcv_m hT, pV_m hT, aI_24 hT, sV_24 hT, aI_3 hT, sV_3 hT, aI_18 hT, sV_18 hT, aI_19 hT, sV_19 hT, aI_mZ hT, sV_mZ hT, ui_s, ui_n, ua_s, ua_k, e, h1, h2, a9, qA]
theorem m_rows (h : mM T z nW fi ar j f n bf) {q wd l : Nat} (e1 : fi 28 = nI q) (e2 : fi 31 = nI wd) (hl : l ≤ 1000) (hwd : wd ≤ 1000) : ∃ fi', fX10_rows fu (mw T G nx z fi (aw ar w)) z (nI l) = some ((), mw T G nx z fi' (aw ar w)) ∧ fEq fi fi' ∧ mfE fi' q wd l l (min (l + wd) n) (min (l + wd) n) (min (l + 2 * wd) n) l := by
  obtain ⟨⟨hT, h1, h2, h3, h4, h5, h6⟩, h7, h8, h9⟩ := h
  have d1 : (2 : Int32) * nI wd = nI (2 * wd) := pk_mul 2 wd
  have m1 := imn_nI (a := l + wd) (b := n) (by omega) (by omega)
  have m2 := imn_nI (a := l + 2 * wd) (b := n) (by omega) (by omega)
  simp +decide only [fX10_rows, Option.bind_some, bn2_s, zz_0, zz_1, if_true, if_false, ite_true, ite_false, vI_i, vR_n, vR_r, vR_v, reduceCtorEq, gI_m hT, gR_m hT, rcv_m hT, pV_m hT, aI_24 hT, sV_24 hT, aI_3 hT, sV_3 hT, aI_18 hT, sV_18 hT, aI_19 hT, sV_19 hT, aI_mZ hT, sV_mZ hT, ui_s, ui_n, ua_s, ua_k, e2, h5, nI_add, d1, m1, m2]
  refine ⟨_, rfl, (((((((fEq.rf fi).ui _ (by omega)).ui _ (by omega)).ui _ (by omega)).ui _ (by omega)).ui _ (by omega)).ui _ (by omega)), ?_⟩
  simp +decide only [mfE, ui_s, ui_n, e1, e2, and_self]
theorem m_c24 {k0 : hS → Nat → Option (Int32 × hS)} {q wd l u zz1 v : Nat} (hq : q ≤ 1) : ∀ (k m y p : Nat) (fi : Nat → Int32) (w : Nat → Int32), mM T z nW fi ar j f n bf → mfE fi q wd l y u zz1 v p → y + k = u → u ≤ n → p + k ≤ n → k < m →
    ∃ fi', fX10_mergeStands_24 fu k0 m (mw T G nx z fi (aw ar w)) z = fX10_mergeStands_86 fu k0 fu (mw T G nx z fi' (aw ar (va_cpy w w (qA q f bf + y) (qA (1 - q) f bf + p) k))) z ∧ fEq fi fi' ∧ mfE fi' q wd l u u zz1 v (p + k) := by
  intro k
  induction k with
  | zero =>
    intro m y p fi w h e hy hu hp hm
    obtain ⟨m, rfl⟩ : ∃ m', m = m' + 1 := ⟨m - 1, by omega⟩
    obtain ⟨⟨hT, h1, h2, h3, h4, h5, h6⟩, h7, h8, h9⟩ := id h
    obtain ⟨e1, e2, e3, e4, e5, e6, e7, e8⟩ := id e
    have hyu : y = u := by omega
    subst hyu
    have c1 : nI y ≤ nI y := nI_le (Nat.le_refl _) (by omega)
    refine ⟨fi, ?_, fEq.rf fi, by rw [Nat.add_zero]; exact e⟩
    rw [fX10_mergeStands_24, cpy_0]
    simp +decide only [Option.bind_some, bn2_s, zz_0, zz_1, if_true, if_false, ite_true, ite_false, vI_i, vR_n, vR_r, vR_v, reduceCtorEq, gI_m hT, gR_m hT, rcv_m hT, pV_m hT, aI_24 hT, sV_24 hT, aI_3 hT, sV_3 hT, aI_18 hT, sV_18 hT, aI_19 hT, sV_19 hT, aI_mZ hT, sV_mZ hT, ui_s, ui_n, ua_s, ua_k, e4, e5, c1]
  | succ k ih =>
    intro m y p fi w h e hy hu hp hm
    obtain ⟨m, rfl⟩ : ∃ m', m = m' + 1 := ⟨m - 1, by omega⟩
    have hs := m_source (fu := fu) (G := G) (nx := nx) (w := w) h hq e.1
    have ht := m_target (fu := fu) (G := G) (nx := nx) (w := w) h hq e.1
    obtain ⟨⟨hT, h1, h2, h3, h4, h5, h6⟩, h7, h8, h9⟩ := id h
    obtain ⟨e1, e2, e3, e4, e5, e6, e7, e8⟩ := id e
    have l1 := qA_le (q := q) h4 h8
    have l2 := qA_le (q := 1 - q) h4 h8
    have dis := qA_dis (q := q) h9 hq
    have c1 : ¬ nI u ≤ nI y := nI_ge (by omega) (by omega)
    have i1 : qA q f bf + y < nW := by omega
    have i2 : qA (1 - q) f bf + p < nW := by omega
    obtain ⟨fi', j1, j2, j3⟩ := ih m (y + 1) (p + 1) (ui (ui fi 27 (nI (p + 1))) 23 (nI (y + 1))) (upd w (qA (1 - q) f bf + p) (w (qA q f bf + y))) (h.fx (((fEq.rf fi).ui _ (by omega)).ui _ (by omega))) (by simp +decide only [mfE, ui_s, ui_n, e1, e2, e3, e5, e6, e7, and_self]) (by omega) hu (by omega) (by omega)
    refine ⟨fi', ?_, fun k hk => by rw [j2 k hk, ui_n _ _ (by omega), ui_n _ _ (by omega)], by rw [show p + (k + 1) = p + 1 + k by omega]; exact j3⟩
    rw [fX10_mergeStands_24]
    simp +decide only [Option.bind_some, bn2_s, zz_0, zz_1, if_true, if_false, ite_true, ite_false, vI_i, vR_n, vR_r, vR_v, reduceCtorEq, gI_m hT, gR_m hT, rcv_m hT, pV_m hT, aI_24 hT, sV_24 hT, aI_3 hT, sV_3 hT, aI_18 hT, sV_18 hT, aI_19 hT, sV_19 hT, aI_mZ hT, sV_mZ hT, ui_s, ui_n, ua_s, ua_k, e4, e5, e8, c1, hs, ht, nI_add, nI_ad1, i1, i2, aw_3, ua_aw]
    rw [j1, ← Nat.add_assoc, ← Nat.add_assoc, cpy_u w (by omega)]
theorem m_c86 {k0 : hS → Nat → Option (Int32 × hS)} {q wd l y u v : Nat} (hq : q ≤ 1) : ∀ (k m zz1 p : Nat) (fi : Nat → Int32) (w : Nat → Int32), mM T z nW fi ar j f n bf → mfE fi q wd l y u zz1 v p → zz1 + k = v → v ≤ n → p + k ≤ n → k < m →
    ∃ fi' m', fX10_mergeStands_86 fu k0 m (mw T G nx z fi (aw ar w)) z = fX10_mergeStands_86 fu k0 (m' + 1) (mw T G nx z fi' (aw ar (va_cpy w w (qA q f bf + zz1) (qA (1 - q) f bf + p) k))) z ∧ fEq fi fi' ∧ mfE fi' q wd l y u v v (p + k) := by
  intro k
  induction k with
  | zero =>
    intro m zz1 p fi w h e hy hu hp hm
    have hyu : zz1 = v := by omega
    subst hyu
    exact ⟨fi, m - 1, by rw [cpy_0, show m - 1 + 1 = m by omega], fEq.rf fi, by rw [Nat.add_zero]; exact e⟩
  | succ k ih =>
    intro m zz1 p fi w h e hy hu hp hm
    obtain ⟨m, rfl⟩ : ∃ m', m = m' + 1 := ⟨m - 1, by omega⟩
    have hs := m_source (fu := fu) (G := G) (nx := nx) (w := w) h hq e.1
    have ht := m_target (fu := fu) (G := G) (nx := nx) (w := w) h hq e.1
    obtain ⟨⟨hT, h1, h2, h3, h4, h5, h6⟩, h7, h8, h9⟩ := id h
    obtain ⟨e1, e2, e3, e4, e5, e6, e7, e8⟩ := id e
    have l1 := qA_le (q := q) h4 h8
    have l2 := qA_le (q := 1 - q) h4 h8
    have dis := qA_dis (q := q) h9 hq
    have c1 : ¬ nI v ≤ nI zz1 := nI_ge (by omega) (by omega)
    have i1 : qA q f bf + zz1 < nW := by omega
    have i2 : qA (1 - q) f bf + p < nW := by omega
    obtain ⟨fi', m', j1, j2, j3⟩ := ih m (zz1 + 1) (p + 1) (ui (ui fi 27 (nI (p + 1))) 24 (nI (zz1 + 1))) (upd w (qA (1 - q) f bf + p) (w (qA q f bf + zz1))) (h.fx (((fEq.rf fi).ui _ (by omega)).ui _ (by omega))) (by simp +decide only [mfE, ui_s, ui_n, e1, e2, e3, e4, e5, e7, and_self]) (by omega) hu (by omega) (by omega)
    refine ⟨fi', m', ?_, fun k hk => by rw [j2 k hk, ui_n _ _ (by omega), ui_n _ _ (by omega)], by rw [show p + (k + 1) = p + 1 + k by omega]; exact j3⟩
    rw [fX10_mergeStands_86]
    simp +decide only [Option.bind_some, bn2_s, zz_0, zz_1, if_true, if_false, ite_true, ite_false, vI_i, vR_n, vR_r, vR_v, reduceCtorEq, gI_m hT, gR_m hT, rcv_m hT, pV_m hT, aI_24 hT, sV_24 hT, aI_3 hT, sV_3 hT, aI_18 hT, sV_18 hT, aI_19 hT, sV_19 hT, aI_mZ hT, sV_mZ hT, ui_s, ui_n, ua_s, ua_k, e6, e7, e8, c1, hs, ht, nI_add, nI_ad1, i1, i2, aw_3, ua_aw]
    rw [j1, ← Nat.add_assoc, ← Nat.add_assoc, cpy_u w (by omega)]
theorem m_c228 : ∀ (k m i : Nat) (w : Nat → Int32), mM T z nW fi ar j f n bf → fi 28 = nI 1 → i + k = n → k < m → fX10_mergeStands_228 fu m (mw T G nx z fi (aw ar w)) z (nI i) = some (0, mw T G nx z fi (aw ar (va_cpy w w (bf + i) (f + i) k))) := by
  intro k
  induction k with
  | zero =>
    intro m i w h e hi hm
    obtain ⟨m, rfl⟩ : ∃ m', m = m' + 1 := ⟨m - 1, by omega⟩
    obtain ⟨⟨hT, h1, h2, h3, h4, h5, h6⟩, h7, h8, h9⟩ := id h
    have c1 : nI n ≤ nI i := nI_le (by omega) (by omega)
    rw [fX10_mergeStands_228, cpy_0]
    simp +decide only [Option.bind_some, bn2_s, zz_0, zz_1, if_true, if_false, ite_true, ite_false, vI_i, vR_n, vR_r, vR_v, reduceCtorEq, gI_m hT, gR_m hT, rcv_m hT, pV_m hT, aI_24 hT, sV_24 hT, aI_3 hT, sV_3 hT, aI_18 hT, sV_18 hT, aI_19 hT, sV_19 hT, aI_mZ hT, sV_mZ hT, ui_s, ui_n, ua_s, ua_k, h5, c1]
  | succ k ih =>
    intro m i w h e hi hm
    obtain ⟨m, rfl⟩ : ∃ m', m = m' + 1 := ⟨m - 1, by omega⟩
    obtain ⟨⟨hT, h1, h2, h3, h4, h5, h6⟩, h7, h8, h9⟩ := id h
    have a9 : aw ar w 9 j = nI f := by rw [aw_n _ _ (by decide)]; exact h3
    have a10 : aw ar w 10 j = nI bf := by rw [aw_n _ _ (by decide)]; exact h7
    have c1 : ¬ nI n ≤ nI i := nI_ge (by omega) (by omega)
    have i1 : bf + i < nW := by omega
    have i2 : f + i < nW := by omega
    rw [fX10_mergeStands_228]
    simp +decide only [Option.bind_some, bn2_s, zz_0, zz_1, if_true, if_false, ite_true, ite_false, vI_i, vR_n, vR_r, vR_v, reduceCtorEq, gI_m hT, gR_m hT, rcv_m hT, pV_m hT, aI_24 hT, sV_24 hT, aI_3 hT, sV_3 hT, aI_18 hT, sV_18 hT, aI_19 hT, sV_19 hT, aI_mZ hT, sV_mZ hT, ui_s, ui_n, ua_s, ua_k, h5, c1, e, h1, h2, a9, a10, nI_add, nI_ad1, i1, i2, aw_3, ua_aw]
    rw [ih m (i + 1) _ h e (by omega) (by omega), ← Nat.add_assoc, ← Nat.add_assoc, cpy_u w (by omega)]
/-- the end of a pass -/
theorem m_endP (h : mM T z nW fi ar j f n bf) {q wd l y u v p : Nat} (hq : q ≤ 1) (e : mfE fi q wd l y u v v p) (h1 : n ≤ l + 2 * wd) (hl : l ≤ 1000) (hwd : 1 ≤ wd) (hwd2 : wd < n) (hfu : 1000 < fu) (m m2 : Nat) :
    ∃ fi', fX10_mergeStands_86 fu (fX10_mergeStands_0 fu (m2 + 1)) (m + 1) (mw T G nx z fi (aw ar w)) z = some (nI (1 - (mEnd f bf n w q wd).2.2.2.2.2.2.2.2.2), mw T G nx z fi' (aw ar (mEnd f bf n w q wd).1)) ∧ fEq fi fi' ∧ ((mEnd f bf n w q wd).2.2.2.2.2.2.2.2.2 = 0 → mfE fi' (mEnd f bf n w q wd).2.1 (mEnd f bf n w q wd).2.2.1 (mEnd f bf n w q wd).2.2.2.1 (mEnd f bf n w q wd).2.2.2.2.1 (mEnd f bf n w q wd).2.2.2.2.2.1 (mEnd f bf n w q wd).2.2.2.2.2.2.1 (mEnd f bf n w q wd).2.2.2.2.2.2.2.1 (mEnd f bf n w q wd).2.2.2.2.2.2.2.2.1) := by
  obtain ⟨⟨hT, k1, k2, k3, k4, k5, k6⟩, k7, k8, k9⟩ := id h
  obtain ⟨e1, e2, e3, e4, e5, e6, e7, e8⟩ := id e
  have d1 : (2 : Int32) * nI wd = nI (2 * wd) := pk_mul 2 wd
  have d2 : nI wd * (2 : Int32) = nI (2 * wd) := by rw [Nat.mul_comm]; exact pk_mul wd 2
  have d3 : (1 : Int32) - nI q = nI (1 - q) := pk_sub (a := 1) hq
  have c1 : nI v ≤ nI v := Int32.le_refl _
  have c2 : nI n ≤ nI (l + 2 * wd) := nI_le h1 (by omega)
  rw [fX10_mergeStands_86]
  simp +decide only [Option.bind_some, bn2_s, zz_0, zz_1, if_true, if_false, ite_true, ite_false, vI_i, vR_n, vR_r, vR_v, reduceCtorEq, gI_m hT, gR_m hT, rcv_m hT, pV_m hT, aI_24 hT, sV_24 hT, aI_3 hT, sV_3 hT, aI_18 hT, sV_18 hT, aI_19 hT, sV_19 hT, aI_mZ hT, sV_mZ hT, ui_s, ui_n, ua_s, ua_k, e6, e7, c1, e3, e2, k5, d1, nI_add, c2, e1, d3, d2]
  unfold mEnd
  have hfe : fEq fi (ui (ui fi 28 (nI (1 - q))) 31 (nI (2 * wd))) := ((fEq.rf fi).ui _ (by omega)).ui _ (by omega)
  by_cases c3 : 2 * wd < n
  · have c4 : nI (2 * wd) < nI n := nI_lt c3 (by omega)
    simp only [c3, c4, if_true]
    obtain ⟨fi', j1, j2, j3⟩ := m_rows (fu := fu) (G := G) (nx := nx) (w := w) (h.fx hfe) (q := 1 - q) (wd := 2 * wd) (l := 0) (by simp +decide only [ui_s, ui_n]) (by simp +decide only [ui_s, ui_n]) (by omega) (by omega)
    rw [show nI 0 = (0 : Int32) from rfl] at j1
    rw [Nat.zero_add, Nat.zero_add, Nat.min_eq_left (show 2 * wd ≤ n by omega)] at j3
    refine ⟨fi', ?_, fun k hk => by rw [j2 k hk, hfe k hk], fun _ => j3⟩
    obtain ⟨t1, t2, t3, t4, t5, t6, t7, t8⟩ := j3
    have c5 : ¬ nI (2 * wd) ≤ nI 0 := nI_ge (by omega) (by omega)
    have c6 : ¬ nI (min (2 * (2 * wd)) n) ≤ nI (2 * wd) := nI_ge (by omega) (by omega)
    simp +decide only [rcv_m hT, j1, Option.bind_some, bn2_s, zz_0, zz_1, if_true, if_false, ite_true, ite_false, vI_i, vR_n, vR_r, vR_v, reduceCtorEq]
    rw [fX10_mergeStands_0]
    simp +decide only [Option.bind_some, bn2_s, zz_0, zz_1, if_true, if_false, ite_true, ite_false, vI_i, vR_n, vR_r, vR_v, reduceCtorEq, gI_m hT, gR_m hT, rcv_m hT, pV_m hT, aI_24 hT, sV_24 hT, aI_3 hT, sV_3 hT, aI_18 hT, sV_18 hT, aI_19 hT, sV_19 hT, aI_mZ hT, sV_mZ hT, ui_s, ui_n, ua_s, ua_k, t4, t5, t6, t7, c5, c6]
    rfl
  · have c4 : ¬ nI (2 * wd) < nI n := nI_nlt (by omega) (by omega)
    simp only [c3, c4, if_false]
    refine ⟨ui (ui fi 28 (nI (1 - q))) 31 (nI (2 * wd)), ?_, hfe, fun z => absurd z (show ¬ (1 : Nat) = 0 by decide)⟩
    have : q = 0 ∨ q = 1 := by omega
    rcases this with rfl | rfl
    · have := m_c228 (fu := fu) (G := G) (nx := nx) (fi := ui (ui fi 28 (nI (1 - 0))) 31 (nI (2 * wd))) n fu 0 w (h.fx hfe) (by simp +decide only [ui_s, ui_n]) (by omega) (by omega)
      rw [Nat.add_zero, Nat.add_zero, show nI 0 = (0 : Int32) from rfl] at this
      rw [this]
      rfl
    · obtain ⟨fu', rfl⟩ : ∃ fu', fu = fu' + 1 := ⟨fu - 1, by omega⟩
      rw [fX10_mergeStands_228]
      simp +decide only [Option.bind_some, bn2_s, zz_0, zz_1, if_true, if_false, ite_true, ite_false, vI_i, vR_n, vR_r, vR_v, reduceCtorEq, gI_m hT, gR_m hT, rcv_m hT, pV_m hT, aI_24 hT, sV_24 hT, aI_3 hT, sV_3 hT, aI_18 hT, sV_18 hT, aI_19 hT, sV_19 hT, aI_mZ hT, sV_mZ hT, ui_s, ui_n, ua_s, ua_k, k5]
      rw [if_neg (by rw [show (0 : Int32) = nI 0 from rfl]; exact nI_ge (by omega) (by omega))]
      rfl
theorem m_mergeCt (h : mM T z nW fi ar j f n bf) {q wd l y u zz1 v p : Nat} (e : mfE fi q wd l y u zz1 v p) (hv : mIw n q wd l y u zz1 v p) (hyz : y < u ∨ zz1 < v) (hfu : 1001 < fu) :
    ∃ fi', fX10_mergeStands fu (mw T G nx z fi (aw ar w)) z = some (nI (1 - (mCt f bf n w q wd l y u zz1 v p).2.2.2.2.2.2.2.2.2), mw T G nx z fi' (aw ar (mCt f bf n w q wd l y u zz1 v p).1)) ∧ fEq fi fi' ∧ ((mCt f bf n w q wd l y u zz1 v p).2.2.2.2.2.2.2.2.2 = 0 → mfE fi' (mCt f bf n w q wd l y u zz1 v p).2.1 (mCt f bf n w q wd l y u zz1 v p).2.2.1 (mCt f bf n w q wd l y u zz1 v p).2.2.2.1 (mCt f bf n w q wd l y u zz1 v p).2.2.2.2.1 (mCt f bf n w q wd l y u zz1 v p).2.2.2.2.2.1 (mCt f bf n w q wd l y u zz1 v p).2.2.2.2.2.2.1 (mCt f bf n w q wd l y u zz1 v p).2.2.2.2.2.2.2.1 (mCt f bf n w q wd l y u zz1 v p).2.2.2.2.2.2.2.2.1) := by
  obtain ⟨⟨hT, k1, k2, k3, k4, k5, k6⟩, k7, k8, k9⟩ := id h
  obtain ⟨h1, h2, h3, h4, h5, h6, h7, h8, h9, h10, h11⟩ := hv
  obtain ⟨e1, e2, e3, e4, e5, e6, e7, e8⟩ := id e
  obtain ⟨fu', hfu'⟩ : ∃ fu', fu = fu' + 3 := ⟨fu - 3, by omega⟩
  unfold mCt
  by_cases c0 : y < u ∧ zz1 < v
  · simp only [c0, and_self, if_true]
    have c1 : ¬ nI u ≤ nI y := nI_ge c0.1 (by omega)
    have c2 : ¬ nI v ≤ nI zz1 := nI_ge c0.2 (by omega)
    refine ⟨fi, ?_, fEq.rf fi, fun _ => e⟩
    have : fX10_mergeStands_0 fu (fu' + 2 + 1) (mw T G nx z fi (aw ar w)) z = some (1, mw T G nx z fi (aw ar w)) := by
      rw [fX10_mergeStands_0]
      simp +decide only [Option.bind_some, bn2_s, zz_0, zz_1, if_true, if_false, ite_true, ite_false, vI_i, vR_n, vR_r, vR_v, reduceCtorEq, gI_m hT, gR_m hT, rcv_m hT, pV_m hT, aI_24 hT, sV_24 hT, aI_3 hT, sV_3 hT, aI_18 hT, sV_18 hT, aI_19 hT, sV_19 hT, aI_mZ hT, sV_mZ hT, ui_s, ui_n, ua_s, ua_k, e4, e5, e6, e7, c1, c2]
    rw [fX10_mergeStands, show fX10_mergeStands_0 fu fu = fX10_mergeStands_0 fu (fu' + 2 + 1) by rw [hfu'], this]
    rfl
  · simp only [c0, if_false]
    have st : fX10_mergeStands fu (mw T G nx z fi (aw ar w)) z = fX10_mergeStands_24 fu (fX10_mergeStands_0 fu (fu' + 2)) fu (mw T G nx z fi (aw ar w)) z := by
      rw [fX10_mergeStands, show fX10_mergeStands_0 fu fu = fX10_mergeStands_0 fu (fu' + 2 + 1) by rw [hfu'], fX10_mergeStands_0]
      by_cases c1 : y < u
      · have c2 : ¬ nI u ≤ nI y := nI_ge c1 (by omega)
        have c3 : nI v ≤ nI zz1 := nI_le (by omega) (by omega)
        simp +decide only [Option.bind_some, bn2_s, zz_0, zz_1, if_true, if_false, ite_true, ite_false, vI_i, vR_n, vR_r, vR_v, reduceCtorEq, gI_m hT, gR_m hT, rcv_m hT, pV_m hT, aI_24 hT, sV_24 hT, aI_3 hT, sV_3 hT, aI_18 hT, sV_18 hT, aI_19 hT, sV_19 hT, aI_mZ hT, sV_mZ hT, ui_s, ui_n, ua_s, ua_k, e4, e5, e6, e7, c2, c3]
      · have c2 : nI u ≤ nI y := nI_le (by omega) (by omega)
        simp +decide only [Option.bind_some, bn2_s, zz_0, zz_1, if_true, if_false, ite_true, ite_false, vI_i, vR_n, vR_r, vR_v, reduceCtorEq, gI_m hT, gR_m hT, rcv_m hT, pV_m hT, aI_24 hT, sV_24 hT, aI_3 hT, sV_3 hT, aI_18 hT, sV_18 hT, aI_19 hT, sV_19 hT, aI_mZ hT, sV_mZ hT, ui_s, ui_n, ua_s, ua_k, e4, e5, c2]
    rw [st]
    obtain ⟨fi1, a1, a2, a3⟩ := m_c24 (fu := fu) (G := G) (nx := nx) (ar := ar) (k0 := fX10_mergeStands_0 fu (fu' + 2)) h1 (u - y) fu y p fi w h e (by omega) (by omega) (by omega) (by omega)
    obtain ⟨fi2, m2, b1, b2, b3⟩ := m_c86 (fu := fu) (G := G) (nx := nx) (ar := ar) (k0 := fX10_mergeStands_0 fu (fu' + 2)) h1 (v - zz1) fu zz1 (p + (u - y)) fi1 (va_cpy w w (qA q f bf + y) (qA (1 - q) f bf + p) (u - y)) (h.fx a2) a3 (by omega) (by omega) (by omega) (by omega)
    have hw1 : va_cpy (va_cpy w w (qA q f bf + y) (qA (1 - q) f bf + p) (u - y)) (va_cpy w w (qA q f bf + y) (qA (1 - q) f bf + p) (u - y)) (qA q f bf + zz1) (qA (1 - q) f bf + (p + (u - y))) (v - zz1) = mRs f bf w q y u zz1 v p := by
      unfold mRs
      by_cases c1 : y < u
      · rw [if_pos c1, show v - zz1 = 0 by omega, cpy_0]
      · rw [if_neg c1, show u - y = 0 by omega, cpy_0, Nat.add_zero]
    rw [a1, b1, hw1]
    have a12 : fEq fi fi2 := fun k hk => by rw [b2 k hk, a2 k hk]
    generalize mRs f bf w q y u zz1 v p = w1
    by_cases c1 : l + 2 * wd < n
    · simp only [c1, if_true]
      obtain ⟨t1, t2, t3, t4, t5, t6, t7, t8⟩ := id b3
      obtain ⟨fi3, r1, r2, r3⟩ := m_rows (fu := fu) (G := G) (nx := nx) (w := w1) (h.fx a12) (q := q) (wd := wd) (l := l + 2 * wd) t1 t2 (by omega) (by omega)
      have d1 : (2 : Int32) * nI wd = nI (2 * wd) := pk_mul 2 wd
      have g1 : nI v ≤ nI v := Int32.le_refl _
      have g2 : ¬ nI n ≤ nI (l + 2 * wd) := nI_ge c1 (by omega)
      have k5' : fi2 21 = nI n := by rw [a12 21 (by omega)]; exact k5
      have s86 : fX10_mergeStands_86 fu (fX10_mergeStands_0 fu (fu' + 2)) (m2 + 1) (mw T G nx z fi2 (aw ar w1)) z = fX10_mergeStands_0 fu (fu' + 2) (mw T G nx z fi3 (aw ar w1)) z := by
        rw [fX10_mergeStands_86]
        simp +decide only [Option.bind_some, bn2_s, zz_0, zz_1, if_true, if_false, ite_true, ite_false, vI_i, vR_n, vR_r, vR_v, reduceCtorEq, gI_m hT, gR_m hT, rcv_m hT, pV_m hT, aI_24 hT, sV_24 hT, aI_3 hT, sV_3 hT, aI_18 hT, sV_18 hT, aI_19 hT, sV_19 hT, aI_mZ hT, sV_mZ hT, ui_s, ui_n, ua_s, ua_k, t6, t7, g1, t3, t2, k5', d1, nI_add, g2, r1]
      rw [s86]
      have a13 : fEq fi fi3 := fun k hk => by rw [r2 k hk, a12 k hk]
      by_cases c2 : l + 2 * wd + wd < n
      · simp only [c2, if_true]
        have m1 : min (l + 2 * wd + wd) n = l + 2 * wd + wd := by omega
        rw [m1] at r3
        refine ⟨fi3, ?_, a13, fun _ => r3⟩
        obtain ⟨s1, s2, s3, s4, s5, s6, s7, s8⟩ := r3
        have g3 : ¬ nI (l + 2 * wd + wd) ≤ nI (l + 2 * wd) := nI_ge (by omega) (by omega)
        have g4 : ¬ nI (min (l + 2 * wd + 2 * wd) n) ≤ nI (l + 2 * wd + wd) := nI_ge (by omega) (by omega)
        rw [fX10_mergeStands_0]
        simp +decide only [Option.bind_some, bn2_s, zz_0, zz_1, if_true, if_false, ite_true, ite_false, vI_i, vR_n, vR_r, vR_v, reduceCtorEq, gI_m hT, gR_m hT, rcv_m hT, pV_m hT, aI_24 hT, sV_24 hT, aI_3 hT, sV_3 hT, aI_18 hT, sV_18 hT, aI_19 hT, sV_19 hT, aI_mZ hT, sV_mZ hT, ui_s, ui_n, ua_s, ua_k, s4, s5, s6, s7, g3, g4]
        rfl
      · simp only [c2, if_false]
        have m1 : min (l + 2 * wd + wd) n = n := by omega
        have m3 : min (l + 2 * wd + 2 * wd) n = n := by omega
        rw [m1, m3] at r3
        obtain ⟨s1, s2, s3, s4, s5, s6, s7, s8⟩ := id r3
        have g3 : ¬ nI n ≤ nI (l + 2 * wd) := nI_ge (by omega) (by omega)
        have g4 : nI n ≤ nI n := Int32.le_refl _
        obtain ⟨fi4, u1, u2, u3⟩ := m_c24 (fu := fu) (G := G) (nx := nx) (ar := ar) (k0 := fX10_mergeStands_0 fu (fu' + 1)) h1 (n - (l + 2 * wd)) fu (l + 2 * wd) (l + 2 * wd) fi3 w1 (h.fx a13) r3 (by omega) (by omega) (by omega) (by omega)
        have a14 : fEq fi fi4 := fun k hk => by rw [u2 k hk, a13 k hk]
        obtain ⟨fi5, v1, v2, v3⟩ := m_endP (fu := fu) (G := G) (nx := nx) (w := va_cpy w1 w1 (qA q f bf + (l + 2 * wd)) (qA (1 - q) f bf + (l + 2 * wd)) (n - (l + 2 * wd))) (h.fx a14) h1 u3 (by omega) (by omega) h2 (by omega) (by omega) (fu - 1) fu'
        refine ⟨fi5, ?_, fun k hk => by rw [v2 k hk, a14 k hk], v3⟩
        rw [fX10_mergeStands_0]
        simp +decide only [Option.bind_some, bn2_s, zz_0, zz_1, if_true, if_false, ite_true, ite_false, vI_i, vR_n, vR_r, vR_v, reduceCtorEq, gI_m hT, gR_m hT, rcv_m hT, pV_m hT, aI_24 hT, sV_24 hT, aI_3 hT, sV_3 hT, aI_18 hT, sV_18 hT, aI_19 hT, sV_19 hT, aI_mZ hT, sV_mZ hT, ui_s, ui_n, ua_s, ua_k, s4, s5, s6, s7, g3, g4]
        rw [u1]
        rw [show fu - 1 + 1 = fu by omega] at v1
        exact v1
    · simp only [c1, if_false]
      obtain ⟨fi5, v1, v2, v3⟩ := m_endP (fu := fu) (G := G) (nx := nx) (w := w1) (h.fx a12) h1 b3 (by omega) (by omega) h2 (by omega) (by omega) m2 (fu' + 1)
      exact ⟨fi5, v1, fun k hk => by rw [v2 k hk, a12 k hk], v3⟩
theorem m_mergeStep (h : mM T z nW fi ar j f n bf) (hw : ar 6 j = 2) {q wd l y u zz1 v p : Nat} (e : mfE fi q wd l y u zz1 v p) (hv : mIv n q wd l y u zz1 v p) (hfu : 1001 < fu) :
    ∃ fi', fX10_goesOn fu (mw T G nx z fi (aw ar w)) z = some (nI (1 - (mStp f bf n w q wd l y u zz1 v p).2.2.2.2.2.2.2.2.2), mw T G nx z fi' (aw ar (mStp f bf n w q wd l y u zz1 v p).1)) ∧ fEq fi fi' ∧ ((mStp f bf n w q wd l y u zz1 v p).2.2.2.2.2.2.2.2.2 = 0 → mfE fi' (mStp f bf n w q wd l y u zz1 v p).2.1 (mStp f bf n w q wd l y u zz1 v p).2.2.1 (mStp f bf n w q wd l y u zz1 v p).2.2.2.1 (mStp f bf n w q wd l y u zz1 v p).2.2.2.2.1 (mStp f bf n w q wd l y u zz1 v p).2.2.2.2.2.1 (mStp f bf n w q wd l y u zz1 v p).2.2.2.2.2.2.1 (mStp f bf n w q wd l y u zz1 v p).2.2.2.2.2.2.2.1 (mStp f bf n w q wd l y u zz1 v p).2.2.2.2.2.2.2.2.1) := by
  obtain ⟨⟨h1, h2, h3, h4, h5, h6, h7, h8, h9, h10, h11⟩, hy, hz⟩ := hv
  have hs := m_source (fu := fu) (G := G) (nx := nx) (w := w) h h1 e.1
  have ht := m_target (fu := fu) (G := G) (nx := nx) (w := w) h h1 e.1
  obtain ⟨⟨hT, k1, k2, k3, k4, k5, k6⟩, k7, k8, k9⟩ := id h
  obtain ⟨e1, e2, e3, e4, e5, e6, e7, e8⟩ := id e
  have l1 := qA_le (q := q) k4 k8
  have l2 := qA_le (q := 1 - q) k4 k8
  have i1 : qA q f bf + y < nW := by omega
  have i2 : qA q f bf + zz1 < nW := by omega
  have i3 : qA (1 - q) f bf + p < nW := by omega
  have hw6 : aw ar w 6 j = 2 := by rw [aw_n _ _ (by decide)]; exact hw
  have b01 : ∀ o : Nat, o ≤ 1 → zz (nI (1 - o)) = some (nI (1 - o)) := fun o ho => by
    have : o = 0 ∨ o = 1 := by omega
    rcases this with rfl | rfl <;> rfl
  have oE : ∀ w' : Nat → Int32, (mEnd f bf n w' q wd).2.2.2.2.2.2.2.2.2 ≤ 1 := fun w' => by
    unfold mEnd; split
    · exact Nat.zero_le _
    · exact Nat.le_refl 1
  have oC : ∀ (w' : Nat → Int32) (y zz1 p : Nat), (mCt f bf n w' q wd l y u zz1 v p).2.2.2.2.2.2.2.2.2 ≤ 1 := fun w' y zz1 p => by
    unfold mCt
    split
    · exact Nat.zero_le _
    · split
      · split
        · exact Nat.zero_le _
        · exact oE _
      · exact oE _
  simp +decide only [fX10_goesOn, fX10_mergeGoes, Option.bind_some, bn2_s, zz_0, zz_1, if_true, if_false, ite_true, ite_false, vI_i, vR_n, vR_r, vR_v, reduceCtorEq, gI_m hT, gR_m hT, rcv_m hT, pV_m hT, aI_24 hT, sV_24 hT, aI_3 hT, sV_3 hT, aI_18 hT, sV_18 hT, aI_19 hT, sV_19 hT, aI_mZ hT, sV_mZ hT, ui_s, ui_n, ua_s, ua_k, k1, k2, hw6, hs, ht, e4, e6, e8, nI_add, i1, i2, i3, aw_3, ua_aw, mStp]
  by_cases c1 : w (qA q f bf + zz1) < w (qA q f bf + y)
  · simp +decide only [c1, if_true, Option.bind_some, bn2_s, zz_0, zz_1, if_true, if_false, ite_true, ite_false, vI_i, vR_n, vR_r, vR_v, reduceCtorEq, gI_m hT, gR_m hT, rcv_m hT, pV_m hT, aI_24 hT, sV_24 hT, aI_3 hT, sV_3 hT, aI_18 hT, sV_18 hT, aI_19 hT, sV_19 hT, aI_mZ hT, sV_mZ hT, ui_s, ui_n, ua_s, ua_k, hs, ht, e6, e8, nI_add, i2, i3, aw_3, ua_aw, nI_ad1, fX10_mergeGoes_110]
    obtain ⟨fi', j1, j2, j3⟩ := m_mergeCt (fu := fu) (G := G) (nx := nx) (w := upd w (qA (1 - q) f bf + p) (w (qA q f bf + zz1))) (h.fx (((fEq.rf fi).ui (nI (zz1 + 1)) (k := 24) (by omega)).ui (nI (p + 1)) (k := 27) (by omega))) (q := q) (wd := wd) (l := l) (y := y) (u := u) (zz1 := zz1 + 1) (v := v) (p := p + 1) (by simp +decide only [mfE, ui_s, ui_n, e1, e2, e3, e4, e5, e7, and_self]) ⟨h1, h2, h3, h4, h5, h6, h7, h8, by omega, by omega, by omega⟩ (Or.inl hy) hfu
    refine ⟨fi', ?_, fun k hk => by rw [j2 k hk, ui_n _ _ (by omega), ui_n _ _ (by omega)], j3⟩
    rw [j1]
    simp +decide only [b01 _ (oC _ _ _ _), Option.bind_some, bn2_s, zz_0, zz_1, if_true, if_false, ite_true, ite_false, vI_i, vR_n, vR_r, vR_v, reduceCtorEq]
  · simp +decide only [c1, if_false, Option.bind_some, bn2_s, zz_0, zz_1, if_true, if_false, ite_true, ite_false, vI_i, vR_n, vR_r, vR_v, reduceCtorEq, gI_m hT, gR_m hT, rcv_m hT, pV_m hT, aI_24 hT, sV_24 hT, aI_3 hT, sV_3 hT, aI_18 hT, sV_18 hT, aI_19 hT, sV_19 hT, aI_mZ hT, sV_mZ hT, ui_s, ui_n, ua_s, ua_k, hs, ht, e4, e8, nI_add, i1, i3, aw_3, ua_aw, nI_ad1, fX10_mergeGoes_110]
    obtain ⟨fi', j1, j2, j3⟩ := m_mergeCt (fu := fu) (G := G) (nx := nx) (w := upd w (qA (1 - q) f bf + p) (w (qA q f bf + y))) (h.fx (((fEq.rf fi).ui (nI (y + 1)) (k := 23) (by omega)).ui (nI (p + 1)) (k := 27) (by omega))) (q := q) (wd := wd) (l := l) (y := y + 1) (u := u) (zz1 := zz1) (v := v) (p := p + 1) (by simp +decide only [mfE, ui_s, ui_n, e1, e2, e3, e5, e6, e7, and_self]) ⟨h1, h2, h3, h4, h5, h6, by omega, by omega, h9, h10, by omega⟩ (Or.inr hz) hfu
    refine ⟨fi', ?_, fun k hk => by rw [j2 k hk, ui_n _ _ (by omega), ui_n _ _ (by omega)], j3⟩
    rw [j1]
    simp +decide only [b01 _ (oC _ _ _ _), Option.bind_some, bn2_s, zz_0, zz_1, if_true, if_false, ite_true, ite_false, vI_i, vR_n, vR_r, vR_v, reduceCtorEq]
end MM
