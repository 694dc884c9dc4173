def mQ (T : Nat → Option (Nat × Nat)) (z nW : Nat) (fi : Nat → Int32) (ar : Nat → Nat → Int32) (j f n bf : Nat) : Prop := mS T z nW fi ar j f n ∧ ar 10 j = nI bf ∧ bf + 24 ≤ nW ∧ (f + n ≤ bf ∨ bf + 24 ≤ f)
def mqE (fi : Nat → Int32) (t l h s k : Nat) : Prop := fi 30 = nI t ∧ fi 22 = nI l ∧ fi 23 = nI h ∧ fi 24 = nI s ∧ fi 25 = nI k
section MQ
variable {T : Nat → Option (Nat × Nat)} {G : Nat → Nat → Value} {nx z nW fu j f n bf : Nat} {fi : Nat → Int32} {ar : Nat → Nat → Int32} {w : Nat → Int32}
theorem mQ.fx (h : mQ T z nW fi ar j f n bf) {fi' : Nat → Int32} (he : fEq fi fi') : mQ T z nW fi' ar j f n bf := ⟨h.1.fx he, h.2⟩
theorem m_range (h : mQ T z nW fi ar j f n bf) {t a b : Nat} (e : fi 30 = nI t) (h1 : a < b) (h2 : b < n) : ∃ fi', fX10_range fu (mw T G nx z fi (aw ar w)) z (nI a) (nI b) = some (1, mw T G nx z fi' (aw ar (qRng f w t a b).1)) ∧ fEq fi fi' ∧ mqE fi' t a b a a := by
  obtain ⟨⟨hT, k1, k2, k3, k4, k5, k6⟩, k7, k8, k9⟩ := id h
  have d1 : nI (a + b) / (2 : Int32) = nI ((a + b) / 2) := pk_div (d := 2) (by omega) (by omega) (by omega)
  have hfe : fEq fi (ui (ui (ui (ui fi 22 (nI a)) 23 (nI b)) 24 (nI a)) 25 (nI a)) := ((((fEq.rf fi).ui _ (by omega)).ui _ (by omega)).ui _ (by omega)).ui _ (by omega)
  have s1 := m_change (fu := fu) (G := G) (nx := nx) (w := w) (h.1.fx hfe) (i := (a + b) / 2) (k := b) (by omega) h2
  refine ⟨_, ?_, hfe, by simp +decide only [mqE, ui_s, ui_n, e, and_self]⟩
  simp +decide only [fX10_range, Option.bind_some, bn2_s, zz_0, zz_1, if_true, if_false, ite_true, ite_false, vI_i, vR_n, vR_r, vR_v, reduceCtorEq, gI_m hT, gR_m hT, rcv_m hT, pV_m hT, aI_24 hT, sV_24 hT, aI_3 hT, sV_3 hT, aI_18 hT, sV_18 hT, aI_19 hT, sV_19 hT, aI_mZ hT, sV_mZ hT, ui_s, ui_n, ua_s, ua_k, nI_add, d1, s1]
  rfl
/-- on with a range, or with the one put latest -/
theorem m_q236 (h : mQ T z nW fi ar j f n bf) {t : Nat} (e : fi 30 = nI t) (ht : t ≤ 9) (hs : qStk bf n w t) {x y : Int32} :
    (∀ a b, x = nI a → y = nI b → a < b → b < n → ∃ fi', fX10_rangeGoes_236 fu (mw T G nx z fi (aw ar w)) z x y = some (1, mw T G nx z fi' (aw ar (qRng f w t a b).1)) ∧ fEq fi fi' ∧ mqE fi' t a b a a) ∧
    (y ≤ x → ∃ fi', fX10_rangeGoes_236 fu (mw T G nx z fi (aw ar w)) z x y = some (nI (1 - (qPop f bf w t).2.2.2.2.2.2), mw T G nx z fi' (aw ar (qPop f bf w t).1)) ∧ fEq fi fi' ∧ ((qPop f bf w t).2.2.2.2.2.2 = 0 → mqE fi' (qPop f bf w t).2.1 (qPop f bf w t).2.2.1 (qPop f bf w t).2.2.2.1 (qPop f bf w t).2.2.2.2.1 (qPop f bf w t).2.2.2.2.2.1)) := by
  obtain ⟨⟨hT, k1, k2, k3, k4, k5, k6⟩, k7, k8, k9⟩ := id h
  refine ⟨fun a b hx hy h1 h2 => ?_, fun hc => ?_⟩
  · subst hx; subst hy
    have c1 : ¬ nI b ≤ nI a := nI_ge h1 (by omega)
    obtain ⟨fi', j1, j2, j3⟩ := m_range (fu := fu) (G := G) (nx := nx) (w := w) h e h1 h2
    refine ⟨fi', ?_, j2, j3⟩
    simp +decide only [fX10_rangeGoes_236, c1, rcv_m hT, j1, Option.bind_some, bn2_s, zz_0, zz_1, if_true, if_false, ite_true, ite_false, vI_i, vR_n, vR_r, vR_v, reduceCtorEq]
  · unfold qPop
    by_cases c0 : t = 0
    · subst c0
      simp only [if_true]
      refine ⟨fi, ?_, fEq.rf fi, fun z => absurd z (show ¬ (1 : Nat) = 0 by decide)⟩
      simp +decide only [fX10_rangeGoes_236, hc, Option.bind_some, bn2_s, zz_0, zz_1, if_true, if_false, ite_true, ite_false, vI_i, vR_n, vR_r, vR_v, reduceCtorEq, gI_m hT, gR_m hT, rcv_m hT, pV_m hT, aI_24 hT, sV_24 hT, aI_3 hT, sV_3 hT, aI_18 hT, sV_18 hT, aI_19 hT, sV_19 hT, aI_mZ hT, sV_mZ hT, ui_s, ui_n, ua_s, ua_k, e]
      rfl
    · simp only [c0, if_false]
      obtain ⟨a, b, e1, e2, e3, e4, e5⟩ := hs (t - 1) (by omega)
      rw [e1, e2, nI_c (by omega), nI_c (by omega)]
      have c1 : ¬ nI t = (0 : Int32) := nI_ne0 (by omega) (by omega)
      have d1 : nI t - (1 : Int32) = nI (t - 1) := pk_sub (b := 1) (by omega)
      have d2 : (2 : Int32) * nI (t - 1) = nI (2 * (t - 1)) := pk_mul 2 (t - 1)
      have a10 : aw ar w 10 j = nI bf := by rw [aw_n _ _ (by decide)]; exact k7
      have i1 : bf + 2 * (t - 1) < nW := by omega
      have i2 : bf + 2 * (t - 1) + 1 < nW := by omega
      obtain ⟨fi', j1, j2, j3⟩ := m_range (fu := fu) (G := G) (nx := nx) (w := w) (h.fx ((fEq.rf fi).ui (nI (t - 1)) (k := 30) (by omega))) (t := t - 1) (by simp +decide only [ui_s]) e3 e4
      refine ⟨fi', ?_, fun k hk => by rw [j2 k hk, ui_n _ _ (by omega)], fun _ => j3⟩
      simp +decide only [fX10_rangeGoes_236, hc, Option.bind_some, bn2_s, zz_0, zz_1, if_true, if_false, ite_true, ite_false, vI_i, vR_n, vR_r, vR_v, reduceCtorEq, gI_m hT, gR_m hT, rcv_m hT, pV_m hT, aI_24 hT, sV_24 hT, aI_3 hT, sV_3 hT, aI_18 hT, sV_18 hT, aI_19 hT, sV_19 hT, aI_mZ hT, sV_mZ hT, ui_s, ui_n, ua_s, ua_k, e, c1, d1, d2, k1, k2, a10, nI_add, nI_ad1, i1, i2, aw_3, e1, e2, j1]
      rfl
theorem m_push (h : mQ T z nW fi ar j f n bf) {t a b : Nat} {x1 : Int32} (e : fi 30 = nI t) (ht : t ≤ 8) (hab : a < b) (hb : b ≤ 1000) : fX10_rangeGoes_138 fu (mw T G nx z fi (aw ar w)) z x1 (nI a) (nI b) = fX10_rangeGoes_200 fu (mw T G nx z (ui fi 30 (nI (t + 1))) (aw ar (qPsh bf w t a b))) z x1 := by
  obtain ⟨⟨hT, k1, k2, k3, k4, k5, k6⟩, k7, k8, k9⟩ := id h
  have c1 : ¬ nI b ≤ nI a := nI_ge hab (by omega)
  have d2 : (2 : Int32) * nI t = nI (2 * t) := pk_mul 2 t
  have a10 : ∀ w', aw ar w' 10 j = nI bf := fun w' => by rw [aw_n _ _ (by decide)]; exact k7
  have i1 : bf + 2 * t < nW := by omega
  have i2 : bf + 2 * t + 1 < nW := by omega
  simp +decide only [fX10_rangeGoes_138, c1, Option.bind_some, bn2_s, zz_0, zz_1, if_true, if_false, ite_true, ite_false, vI_i, vR_n, vR_r, vR_v, reduceCtorEq, gI_m hT, gR_m hT, rcv_m hT, pV_m hT, aI_24 hT, sV_24 hT, aI_3 hT, sV_3 hT, aI_18 hT, sV_18 hT, aI_19 hT, sV_19 hT, aI_mZ hT, sV_mZ hT, ui_s, ui_n, ua_s, ua_k, k1, k2, a10, e, d2, nI_add, nI_ad1, i1, i2, ua_aw]
  rfl
theorem m_qEnd (h : mQ T z nW fi ar j f n bf) {t l h1 s : Nat} (e1 : fi 30 = nI t) (e2 : fi 22 = nI l) (e3 : fi 23 = nI h1) (e4 : fi 24 = nI s) (q1 : l < h1) (q2 : h1 < n) (q3 : l ≤ s) (q4 : s ≤ h1) (hc : (h1 - l + 1) * 2 ^ t ≤ n) (hs : qStk bf n w t) :
    ∃ fi', fX10_rangeGoes_102 fu (mw T G nx z fi (aw ar w)) z (if s - l ≤ h1 - s then 0 else 1) = some (nI (1 - (qEnd f bf w t l h1 s).2.2.2.2.2.2), mw T G nx z fi' (aw ar (qEnd f bf w t l h1 s).1)) ∧ fEq fi fi' ∧ ((qEnd f bf w t l h1 s).2.2.2.2.2.2 = 0 → mqE fi' (qEnd f bf w t l h1 s).2.1 (qEnd f bf w t l h1 s).2.2.1 (qEnd f bf w t l h1 s).2.2.2.1 (qEnd f bf w t l h1 s).2.2.2.2.1 (qEnd f bf w t l h1 s).2.2.2.2.2.1) := by
  obtain ⟨⟨hT, k1, k2, k3, k4, k5, k6⟩, k7, k8, k9⟩ := id h
  have ht := q_deep (show 2 ≤ h1 - l + 1 by omega) hc k6
  have hm : ∀ x, x ≤ h1 - l + 1 → x * 2 ^ t ≤ n := fun x hx => Nat.le_trans (Nat.mul_le_mul_right _ hx) hc
  unfold qEnd
  by_cases c1 : s - l ≤ h1 - s
  · simp only [c1, if_true]
    simp +decide only [fX10_rangeGoes_102, fX10_rangeGoes_120, Option.bind_some, bn2_s, zz_0, zz_1, if_true, if_false, ite_true, ite_false, vI_i, vR_n, vR_r, vR_v, reduceCtorEq, gI_m hT, gR_m hT, rcv_m hT, pV_m hT, aI_24 hT, sV_24 hT, aI_3 hT, sV_3 hT, aI_18 hT, sV_18 hT, aI_19 hT, sV_19 hT, aI_mZ hT, sV_mZ hT, ui_s, ui_n, ua_s, ua_k, e4, e3, nI_ad1]
    by_cases c3 : s + 1 < h1
    · simp only [c3, if_true]
      have hp := qStk_psh hs (a := s + 1) (b := h1) c3 q2 (hm _ (by omega))
      have hq := m_q236 (fu := fu) (G := G) (nx := nx) (w := qPsh bf w t (s + 1) h1) (h.fx ((fEq.rf fi).ui (nI (t + 1)) (k := 30) (by omega))) (t := t + 1) (by simp +decide only [ui_s]) (by omega) hp (x := nI l) (y := nI s - (1 : Int32))
      rw [m_push h e1 ht c3 (by omega)]
      simp +decide only [fX10_rangeGoes_200, fX10_rangeGoes_217, Option.bind_some, bn2_s, zz_0, zz_1, if_true, if_false, ite_true, ite_false, vI_i, vR_n, vR_r, vR_v, reduceCtorEq, gI_m hT, gR_m hT, rcv_m hT, pV_m hT, aI_24 hT, sV_24 hT, aI_3 hT, sV_3 hT, aI_18 hT, sV_18 hT, aI_19 hT, sV_19 hT, aI_mZ hT, sV_mZ hT, ui_s, ui_n, ua_s, ua_k, e2, e4]
      by_cases c4 : l + 1 < s
      · simp only [c4, if_true]
        obtain ⟨fi', j1, j2, j3⟩ := hq.1 l (s - 1) rfl (pk_sub (b := 1) (by omega)) (by omega) (by omega)
        exact ⟨fi', j1, fun k hk => by rw [j2 k hk, ui_n _ _ (by omega)], fun _ => j3⟩
      · simp only [c4, if_false]
        obtain ⟨fi', j1, j2, j3⟩ := hq.2 (by rw [nI_p2 (by omega) (by omega)]; exact c4)
        exact ⟨fi', j1, fun k hk => by rw [j2 k hk, ui_n _ _ (by omega)], j3⟩
    · simp only [c3, if_false]
      have c5 : nI h1 ≤ nI (s + 1) := nI_le (by omega) (by omega)
      have hq := m_q236 (fu := fu) (G := G) (nx := nx) (w := w) h (t := t) e1 (by omega) hs (x := nI l) (y := nI s - (1 : Int32))
      simp +decide only [fX10_rangeGoes_138, c5, fX10_rangeGoes_200, fX10_rangeGoes_217, Option.bind_some, bn2_s, zz_0, zz_1, if_true, if_false, ite_true, ite_false, vI_i, vR_n, vR_r, vR_v, reduceCtorEq, gI_m hT, gR_m hT, rcv_m hT, pV_m hT, aI_24 hT, sV_24 hT, aI_3 hT, sV_3 hT, aI_18 hT, sV_18 hT, aI_19 hT, sV_19 hT, aI_mZ hT, sV_mZ hT, ui_s, ui_n, ua_s, ua_k, e2, e4]
      exact hq.2 (by rw [nI_p2 (by omega) (by omega)]; omega)
  · simp only [c1, if_false]
    have d3 : nI s - (1 : Int32) = nI (s - 1) := pk_sub (b := 1) (by omega)
    simp +decide only [fX10_rangeGoes_102, fX10_rangeGoes_120, Option.bind_some, bn2_s, zz_0, zz_1, if_true, if_false, ite_true, ite_false, vI_i, vR_n, vR_r, vR_v, reduceCtorEq, gI_m hT, gR_m hT, rcv_m hT, pV_m hT, aI_24 hT, sV_24 hT, aI_3 hT, sV_3 hT, aI_18 hT, sV_18 hT, aI_19 hT, sV_19 hT, aI_mZ hT, sV_mZ hT, ui_s, ui_n, ua_s, ua_k, e4, e2, d3]
    by_cases c3 : l + 1 < s
    · simp only [c3, if_true]
      have hp := qStk_psh hs (a := l) (b := s - 1) (by omega) (by omega) (hm _ (by omega))
      have hq := m_q236 (fu := fu) (G := G) (nx := nx) (w := qPsh bf w t l (s - 1)) (h.fx ((fEq.rf fi).ui (nI (t + 1)) (k := 30) (by omega))) (t := t + 1) (by simp +decide only [ui_s]) (by omega) hp (x := nI (s + 1)) (y := nI h1)
      rw [m_push h e1 ht (show l < s - 1 by omega) (by omega)]
      simp +decide only [fX10_rangeGoes_200, fX10_rangeGoes_217, Option.bind_some, bn2_s, zz_0, zz_1, if_true, if_false, ite_true, ite_false, vI_i, vR_n, vR_r, vR_v, reduceCtorEq, gI_m hT, gR_m hT, rcv_m hT, pV_m hT, aI_24 hT, sV_24 hT, aI_3 hT, sV_3 hT, aI_18 hT, sV_18 hT, aI_19 hT, sV_19 hT, aI_mZ hT, sV_mZ hT, ui_s, ui_n, ua_s, ua_k, e3, e4, nI_ad1]
      by_cases c4 : s + 1 < h1
      · simp only [c4, if_true]
        obtain ⟨fi', j1, j2, j3⟩ := hq.1 (s + 1) h1 rfl rfl c4 q2
        exact ⟨fi', j1, fun k hk => by rw [j2 k hk, ui_n _ _ (by omega)], fun _ => j3⟩
      · simp only [c4, if_false]
        obtain ⟨fi', j1, j2, j3⟩ := hq.2 (nI_le (by omega) (by omega))
        exact ⟨fi', j1, fun k hk => by rw [j2 k hk, ui_n _ _ (by omega)], j3⟩
    · simp only [c3, if_false]
      have c5 : nI (s - 1) ≤ nI l := nI_le (by omega) (by omega)
      have hq := m_q236 (fu := fu) (G := G) (nx := nx) (w := w) h (t := t) e1 (by omega) hs (x := nI (s + 1)) (y := nI h1)
      simp +decide only [fX10_rangeGoes_138, c5, fX10_rangeGoes_200, fX10_rangeGoes_217, Option.bind_some, bn2_s, zz_0, zz_1, if_true, if_false, ite_true, ite_false, vI_i, vR_n, vR_r, vR_v, reduceCtorEq, gI_m hT, gR_m hT, rcv_m hT, pV_m hT, aI_24 hT, sV_24 hT, aI_3 hT, sV_3 hT, aI_18 hT, sV_18 hT, aI_19 hT, sV_19 hT, aI_mZ hT, sV_mZ hT, ui_s, ui_n, ua_s, ua_k, e3, e4, nI_ad1]
      exact hq.2 (nI_le (by omega) (by omega))
theorem m_qSt1 (h : mQ T z nW fi ar j f n bf) {t l h1 s k : Nat} (e : mqE fi t l h1 s k) (q1 : l < h1) (q2 : h1 < n) (q3 : l ≤ s) (q4 : s ≤ k + 1) (q5 : k < h1) (hc : (h1 - l + 1) * 2 ^ t ≤ n) (hs : qStk bf n w t) :
    ∃ fi', fX10_rangeGoes_41 fu (mw T G nx z fi (aw ar w)) z = some (nI (1 - (qSt1 f bf w t l h1 s k).2.2.2.2.2.2), mw T G nx z fi' (aw ar (qSt1 f bf w t l h1 s k).1)) ∧ fEq fi fi' ∧ ((qSt1 f bf w t l h1 s k).2.2.2.2.2.2 = 0 → mqE fi' (qSt1 f bf w t l h1 s k).2.1 (qSt1 f bf w t l h1 s k).2.2.1 (qSt1 f bf w t l h1 s k).2.2.2.1 (qSt1 f bf w t l h1 s k).2.2.2.2.1 (qSt1 f bf w t l h1 s k).2.2.2.2.2.1) := by
  obtain ⟨⟨hT, k1, k2, k3, k4, k5, k6⟩, k7, k8, k9⟩ := id h
  have ht := q_deep (show 2 ≤ h1 - l + 1 by omega) hc k6
  obtain ⟨e1, e2, e3, e4, e5⟩ := e
  unfold qSt1
  by_cases c1 : k + 1 < h1
  · have c2 : ¬ nI h1 ≤ nI (k + 1) := nI_ge c1 (by omega)
    simp only [c1, if_true]
    refine ⟨ui fi 25 (nI (k + 1)), ?_, (fEq.rf fi).ui _ (by omega), fun _ => by simp +decide only [mqE, ui_s, ui_n, e1, e2, e3, e4, and_self]⟩
    simp +decide only [fX10_rangeGoes_41, Option.bind_some, bn2_s, zz_0, zz_1, if_true, if_false, ite_true, ite_false, vI_i, vR_n, vR_r, vR_v, reduceCtorEq, gI_m hT, gR_m hT, rcv_m hT, pV_m hT, aI_24 hT, sV_24 hT, aI_3 hT, sV_3 hT, aI_18 hT, sV_18 hT, aI_19 hT, sV_19 hT, aI_mZ hT, sV_mZ hT, ui_s, ui_n, ua_s, ua_k, e5, nI_ad1, e3, c2]
    rfl
  · have c2 : nI h1 ≤ nI (k + 1) := nI_le (by omega) (by omega)
    simp only [c1, if_false]
    have hfe : fEq fi (ui fi 25 (nI (k + 1))) := (fEq.rf fi).ui _ (by omega)
    have s1 := m_change (fu := fu) (G := G) (nx := nx) (w := w) (h.1.fx hfe) (i := s) (k := h1) (by omega) q2
    have d1 : nI s - nI l = nI (s - l) := pk_sub q3
    have d2 : nI h1 - nI s = nI (h1 - s) := pk_sub (by omega)
    obtain ⟨fi', j1, j2, j3⟩ := m_qEnd (fu := fu) (G := G) (nx := nx) (w := sw w (f + s) (f + h1)) (h.fx hfe) (t := t) (l := l) (h1 := h1) (s := s) (by simp +decide only [ui_s, ui_n, e1]) (by simp +decide only [ui_s, ui_n, e2]) (by simp +decide only [ui_s, ui_n, e3]) (by simp +decide only [ui_s, ui_n, e4]) q1 q2 q3 (by omega) hc (qStk_sw hs k9 (by omega) (by omega) q2)
    refine ⟨fi', ?_, fun k hk => by rw [j2 k hk, ui_n _ _ (by omega)], j3⟩
    simp +decide only [fX10_rangeGoes_41, Option.bind_some, bn2_s, zz_0, zz_1, if_true, if_false, ite_true, ite_false, vI_i, vR_n, vR_r, vR_v, reduceCtorEq, gI_m hT, gR_m hT, rcv_m hT, pV_m hT, aI_24 hT, sV_24 hT, aI_3 hT, sV_3 hT, aI_18 hT, sV_18 hT, aI_19 hT, sV_19 hT, aI_mZ hT, sV_mZ hT, ui_s, ui_n, ua_s, ua_k, e5, nI_ad1, e2, e3, e4, c2, s1, d1, d2]
    by_cases c3 : s - l ≤ h1 - s
    · rw [if_pos (nI_le c3 (by omega))]
      rw [if_pos c3] at j1
      exact j1
    · rw [if_neg (nI_ge (by omega) (by omega))]
      rw [if_neg c3] at j1
      exact j1
theorem m_quickStep (h : mQ T z nW fi ar j f n bf) (hw : ar 6 j = 4) {t l h1 s k : Nat} (e : mqE fi t l h1 s k) (hv : qIv bf n w t l h1 s k) :
    ∃ fi', fX10_goesOn fu (mw T G nx z fi (aw ar w)) z = some (nI (1 - (qStp f bf w t l h1 s k).2.2.2.2.2.2), mw T G nx z fi' (aw ar (qStp f bf w t l h1 s k).1)) ∧ fEq fi fi' ∧ ((qStp f bf w t l h1 s k).2.2.2.2.2.2 = 0 → mqE fi' (qStp f bf w t l h1 s k).2.1 (qStp f bf w t l h1 s k).2.2.1 (qStp f bf w t l h1 s k).2.2.2.1 (qStp f bf w t l h1 s k).2.2.2.2.1 (qStp f bf w t l h1 s k).2.2.2.2.2.1) := by
  obtain ⟨q1, q2, q3, q4, q5, q6, q7, q8⟩ := hv
  have ht := q_deep (show 2 ≤ h1 - l + 1 by omega) q7 q6
  obtain ⟨⟨hT, k1, k2, k3, k4, k5, k6⟩, k7, k8, k9⟩ := id h
  have e' := e
  obtain ⟨e1, e2, e3, e4, e5⟩ := e
  have hw6 : aw ar w 6 j = 4 := by rw [aw_n _ _ (by decide)]; exact hw
  have a1 := m_at2 (fu := fu) (G := G) (nx := nx) (w := w) h.1 (i := k) (by omega)
  have a2 := m_at2 (fu := fu) (G := G) (nx := nx) (w := w) h.1 (i := h1) (by omega)
  have s1 := m_change (fu := fu) (G := G) (nx := nx) (w := w) h.1 (i := k) (k := s) (by omega) (by omega)
  have b01 : ∀ o : Nat, o ≤ 1 → zz (nI (1 - o)) = some (nI (1 - o)) := fun o ho => by
    have : o = 0 ∨ o = 1 := by omega
    rcases this with rfl | rfl <;> rfl
  have oP : ∀ (w' : Nat → Int32) (t : Nat), (qPop f bf w' t).2.2.2.2.2.2 ≤ 1 := fun w' t => by
    unfold qPop; split
    · exact Nat.le_refl 1
    · exact Nat.zero_le _
  have o1 : ∀ (w' : Nat → Int32) (s : Nat), (qSt1 f bf w' t l h1 s k).2.2.2.2.2.2 ≤ 1 := fun w' s => by
    unfold qSt1 qEnd
    repeat' split
    all_goals first | exact Nat.zero_le _ | exact oP _ _
  simp +decide only [fX10_goesOn, fX10_rangeGoes, Option.bind_some, bn2_s, zz_0, zz_1, if_true, if_false, ite_true, ite_false, vI_i, vR_n, vR_r, vR_v, reduceCtorEq, gI_m hT, gR_m hT, rcv_m hT, pV_m hT, aI_24 hT, sV_24 hT, aI_3 hT, sV_3 hT, aI_18 hT, sV_18 hT, aI_19 hT, sV_19 hT, aI_mZ hT, sV_mZ hT, ui_s, ui_n, ua_s, ua_k, k1, k2, hw6, e5, e3, a1, a2, qStp]
  by_cases c1 : w (f + h1) ≤ w (f + k)
  · simp only [c1, if_true]
    obtain ⟨fi', j1, j2, j3⟩ := m_qSt1 (fu := fu) (G := G) (nx := nx) (w := w) h e' q1 q2 q3 (by omega) q5 q7 q8
    refine ⟨fi', ?_, j2, j3⟩
    rw [j1]
    simp +decide only [b01 _ (o1 _ _), Option.bind_some, bn2_s, zz_0, zz_1, if_true, if_false, ite_true, ite_false, vI_i, vR_n, vR_r, vR_v, reduceCtorEq]
  · simp +decide only [c1, if_false, Option.bind_some, bn2_s, zz_0, zz_1, if_true, if_false, ite_true, ite_false, vI_i, vR_n, vR_r, vR_v, reduceCtorEq, gI_m hT, gR_m hT, rcv_m hT, pV_m hT, aI_24 hT, sV_24 hT, aI_3 hT, sV_3 hT, aI_18 hT, sV_18 hT, aI_19 hT, sV_19 hT, aI_mZ hT, sV_mZ hT, ui_s, ui_n, ua_s, ua_k, e4, e5, s1, nI_ad1]
    obtain ⟨fi', j1, j2, j3⟩ := m_qSt1 (fu := fu) (G := G) (nx := nx) (w := sw w (f + k) (f + s)) (h.fx ((fEq.rf fi).ui (nI (s + 1)) (k := 24) (by omega))) (t := t) (l := l) (h1 := h1) (s := s + 1) (k := k) (by simp +decide only [mqE, ui_s, ui_n, e1, e2, e3, e5, and_self]) q1 q2 (by omega) (by omega) q5 q7 (qStk_sw q8 k9 (by omega) (by omega) (by omega))
    refine ⟨fi', ?_, fun k hk => by rw [j2 k hk, ui_n _ _ (by omega)], j3⟩
    rw [j1]
    simp +decide only [b01 _ (o1 _ _), Option.bind_some, bn2_s, zz_0, zz_1, if_true, if_false, ite_true, ite_false, vI_i, vR_n, vR_r, vR_v, reduceCtorEq]
end MQ
