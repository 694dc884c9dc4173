/-! sorting in the reference: job j's cells at f, its n numbers; its variables fi 22 .. 31 -/
def mS (T : Nat → Option (Nat × Nat)) (z nW : Nat) (fi : Nat → Int32) (ar : Nat → Nat → Int32) (j f n : Nat) : Prop := mT T z nW ∧ fi 20 = nI j ∧ j < 24 ∧ ar 9 j = nI f ∧ f + n ≤ nW ∧ fi 21 = nI n ∧ n ≤ 1000
/-- all but the ten variables stay -/
def fEq (fi fi' : Nat → Int32) : Prop := ∀ k, k < 22 → fi' k = fi k
theorem fEq.rf (fi : Nat → Int32) : fEq fi fi := fun _ _ => rfl
theorem fEq.ui {fi fi' : Nat → Int32} (h : fEq fi fi') {k : Nat} (x : Int32) (hk : 22 ≤ k) : fEq fi (ui fi' k x) := fun q hq => by rw [ui_n _ _ (by omega)]; exact h q hq
theorem gNx_o (n g i : Nat) : (gNx n g i).2.2 ≤ 1 := by
  unfold gNx
  split
  · exact Nat.zero_le _
  · show (if 0 < (g - 1) / 3 then 0 else 1) ≤ 1
    split <;> omega
section MS
variable {T : Nat → Option (Nat × Nat)} {G : Nat → Nat → Value} {nx z nW fu j f n : Nat} {fi : Nat → Int32} {ar : Nat → Nat → Int32} {w : Nat → Int32}
theorem mS.fx (h : mS T z nW fi ar j f n) {fi' : Nat → Int32} (he : fEq fi fi') : mS T z nW fi' ar j f n := ⟨h.1, by rw [he 20 (by omega)]; exact h.2.1, h.2.2.1, h.2.2.2.1, h.2.2.2.2.1, by rw [he 21 (by omega)]; exact h.2.2.2.2.2.1, h.2.2.2.2.2.2⟩
theorem m_at2 (h : mS T z nW fi ar j f n) {i : Nat} (hi : i < n) : fX10_at fu (mw T G nx z fi (aw ar w)) z (nI i) = some (w (f + i), mw T G nx z fi (aw ar w)) := by
  obtain ⟨hT, h1, h2, h3, h4, h5, h6⟩ := h
  have := m_at (fu := fu) (G := G) (nx := nx) (ar := aw ar w) hT h1 h2 (x := nI i) (i := f + i) (by rw [aw_n _ _ (by decide), h3, nI_add]) (by omega)
  rw [aw_3] at this
  exact this
theorem m_change (h : mS T z nW fi ar j f n) {i k : Nat} (hi : i < n) (hk : k < n) : fX10_change fu (mw T G nx z fi (aw ar w)) z (nI i) (nI k) = some ((), mw T G nx z fi (aw ar (sw w (f + i) (f + k)))) := by
  obtain ⟨hT, h1, h2, h3, h4, h5, h6⟩ := h
  have i1 : f + i < nW := by omega
  have i2 : f + k < nW := by omega
  have h9 : aw ar w 9 j = nI f := by rw [aw_n _ _ (by decide)]; exact h3
  have h9' : ∀ w', aw ar w' 9 j = nI f := fun w' => by rw [aw_n _ _ (by decide)]; exact h3
  simp +decide only [fX10_change, Option.bind_some, bn2_s, zz_0, zz_1, if_true, if_false, ite_true, ite_false, vI_i, vR_n, vR_r, vR_v, reduceCtorEq, gI_m hT, gR_m hT, rcv_m hT, pV_m hT, aI_24 hT, sV_24 hT, aI_3 hT, sV_3 hT, aI_18 hT, sV_18 hT, aI_19 hT, sV_19 hT, aI_mZ hT, sV_mZ hT, ui_s, ui_n, ua_s, ua_k, h1, h2, h9', nI_add, i1, i2, aw_3, ua_aw]
  rfl
/-- what stepsStand makes of gap g and i, behind a number: g', i', more -/
theorem m_stand_ok (h : mS T z nW fi ar j f n) {g i k : Nat} (e1 : fi 22 = nI g) (e2 : fi 23 = nI i) (e3 : fi 24 = nI k) (g1 : 1 ≤ g) (g2 : i < n) (g3 : g ≤ k) (g4 : k ≤ 1000) (m : Nat) : fX10_stepsStand_0 fu (m + 1) (mw T G nx z fi ar) z = some (1, mw T G nx z fi ar) := by
  obtain ⟨hT, h1, h2, h3, h4, h5, h6⟩ := h
  have c1 : ¬ nI g ≤ 0 := nI_nle (by omega) (by omega)
  have c2 : ¬ nI n ≤ nI i := nI_ge g2 (by omega)
  have c3 : ¬ nI k < nI g := nI_nlt g3 (by omega)
  rw [fX10_stepsStand_0]
  simp +decide only [Option.bind_some, bn2_s, zz_0, zz_1, if_true, if_false, ite_true, ite_false, vI_i, vR_n, vR_r, vR_v, reduceCtorEq, gI_m hT, gR_m hT, rcv_m hT, pV_m hT, aI_24 hT, sV_24 hT, aI_3 hT, sV_3 hT, aI_18 hT, sV_18 hT, aI_19 hT, sV_19 hT, aI_mZ hT, sV_mZ hT, ui_s, ui_n, ua_s, ua_k, e1, e2, e3, h5, c1, c2, c3]
theorem m_stand_gap (h : mS T z nW fi ar j f n) (hw : ar 6 j = 0 ∨ ar 6 j = 3) {g k : Nat} (hg : ar 6 j = 0 → g = 1) (e1 : fi 22 = nI g) (e2 : fi 23 = nI n) (e3 : fi 24 = nI k) (g1 : 1 ≤ g) (g2 : g < n) (m : Nat) :
    ∃ fi', fX10_stepsStand_0 fu (m + 2) (mw T G nx z fi ar) z = some (if 0 < (g - 1) / 3 then 1 else 0, mw T G nx z fi' ar) ∧ fEq fi fi' ∧ fi' 22 = nI ((g - 1) / 3) ∧ fi' 23 = nI ((g - 1) / 3) ∧ fi' 24 = nI ((g - 1) / 3) := by
  have h' := h
  obtain ⟨hT, h1, h2, h3, h4, h5, h6⟩ := h
  have c1 : ¬ nI g ≤ 0 := nI_nle (by omega) (by omega)
  have c2 : nI n ≤ nI n := nI_le (Nat.le_refl _) (by omega)
  have d1 : nI g - (1 : Int32) = nI (g - 1) := pk_sub (b := 1) g1
  have d2 : nI (g - 1) / (3 : Int32) = nI ((g - 1) / 3) := pk_div (d := 3) (by omega) (by omega) (by omega)
  have dz : (if ar 6 j = 0 then (0 : Int32) else nI ((g - 1) / 3)) = nI ((g - 1) / 3) := by
    split
    · rename_i c; rw [hg c]; rfl
    · rfl
  refine ⟨ui (ui (ui fi 22 (nI ((g - 1) / 3))) 23 (nI ((g - 1) / 3))) 24 (nI ((g - 1) / 3)), ?_, ((((fEq.rf fi).ui _ (by omega)).ui _ (by omega)).ui _ (by omega)), by simp +decide only [ui_s, ui_n], by simp +decide only [ui_s, ui_n], by simp +decide only [ui_s, ui_n]⟩
  have key : fX10_stepsStand_0 fu (m + 1) (mw T G nx z (ui (ui (ui fi 22 (nI ((g - 1) / 3))) 23 (nI ((g - 1) / 3))) 24 (nI ((g - 1) / 3))) ar) z = some (if 0 < (g - 1) / 3 then 1 else 0, mw T G nx z (ui (ui (ui fi 22 (nI ((g - 1) / 3))) 23 (nI ((g - 1) / 3))) 24 (nI ((g - 1) / 3))) ar) := by
    by_cases c : 0 < (g - 1) / 3
    · rw [if_pos c]
      exact m_stand_ok (h'.fx ((((fEq.rf fi).ui _ (by omega)).ui _ (by omega)).ui _ (by omega))) (g := (g - 1) / 3) (i := (g - 1) / 3) (k := (g - 1) / 3) (by simp +decide only [ui_s, ui_n]) (by simp +decide only [ui_s, ui_n]) (by simp +decide only [ui_s, ui_n]) (by omega) (by omega) (by omega) (by omega) m
    · have : (g - 1) / 3 = 0 := by omega
      rw [if_neg c, this, fX10_stepsStand_0]
      simp +decide only [Option.bind_some, bn2_s, zz_0, zz_1, if_true, if_false, ite_true, ite_false, vI_i, vR_n, vR_r, vR_v, reduceCtorEq, gI_m hT, gR_m hT, rcv_m hT, pV_m hT, aI_24 hT, sV_24 hT, aI_3 hT, sV_3 hT, aI_18 hT, sV_18 hT, aI_19 hT, sV_19 hT, aI_mZ hT, sV_mZ hT, ui_s, ui_n, ua_s, ua_k]
  rw [fX10_stepsStand_0]
  simp +decide only [Option.bind_some, bn2_s, zz_0, zz_1, if_true, if_false, ite_true, ite_false, vI_i, vR_n, vR_r, vR_v, reduceCtorEq, gI_m hT, gR_m hT, rcv_m hT, pV_m hT, aI_24 hT, sV_24 hT, aI_3 hT, sV_3 hT, aI_18 hT, sV_18 hT, aI_19 hT, sV_19 hT, aI_mZ hT, sV_mZ hT, ui_s, ui_n, ua_s, ua_k, e1, e2, h5, c1, c2, fX10_stepsStand_31, fX10_stepsStand_88, h1, h2, d1, d2]
  rcases hw with hw | hw
  · rw [hg hw] at key
    simp +decide only [hw, if_true]
    rw [hg hw]
    exact key
  · simp +decide only [hw, if_false]
    exact key
/-- behind i: the next number, or the next gap -/
theorem m_stand_next (h : mS T z nW fi ar j f n) (hw : ar 6 j = 0 ∨ ar 6 j = 3) {g i : Nat} (hg : ar 6 j = 0 → g = 1) (e1 : fi 22 = nI g) (e2 : fi 23 = nI (i + 1)) (e3 : fi 24 = nI (i + 1)) (g1 : 1 ≤ g) (g2 : g ≤ i) (g3 : i < n) (m : Nat) :
    ∃ fi', fX10_stepsStand_0 fu (m + 2) (mw T G nx z fi ar) z = some (nI (1 - (gNx n g i).2.2), mw T G nx z fi' ar) ∧ fEq fi fi' ∧ fi' 22 = nI (gNx n g i).1 ∧ fi' 23 = nI (gNx n g i).2.1 ∧ fi' 24 = nI (gNx n g i).2.1 := by
  have hn := h.2.2.2.2.2.2
  unfold gNx
  by_cases c : i + 1 < n
  · simp only [c, if_true]
    exact ⟨fi, m_stand_ok h e1 e2 e3 g1 c (by omega) (by omega) (m + 1), fEq.rf fi, e1, e2, e3⟩
  · have : i + 1 = n := by omega
    simp only [c, if_false]
    rw [this] at e2 e3
    obtain ⟨fi', j1, j2⟩ := m_stand_gap (fu := fu) (G := G) (nx := nx) h hw hg e1 e2 e3 g1 (by omega) m
    refine ⟨fi', ?_, j2⟩
    rw [j1]
    split <;> rfl
/-- when j fell below the gap: one turn more of the loop -/
theorem m_stand_low (h : mS T z nW fi ar j f n) (hw : ar 6 j = 0 ∨ ar 6 j = 3) {g i k : Nat} (hg : ar 6 j = 0 → g = 1) (e1 : fi 22 = nI g) (e2 : fi 23 = nI i) (e3 : fi 24 = nI k) (g1 : 1 ≤ g) (g2 : g ≤ i) (g3 : i < n) (g4 : k < g) (m : Nat) :
    ∃ fi', fX10_stepsStand_0 fu (m + 3) (mw T G nx z fi ar) z = some (nI (1 - (gNx n g i).2.2), mw T G nx z fi' ar) ∧ fEq fi fi' ∧ fi' 22 = nI (gNx n g i).1 ∧ fi' 23 = nI (gNx n g i).2.1 ∧ fi' 24 = nI (gNx n g i).2.1 := by
  have h' := h
  obtain ⟨hT, h1, h2, h3, h4, h5, h6⟩ := h
  have c1 : ¬ nI g ≤ 0 := nI_nle (by omega) (by omega)
  have c2 : ¬ nI n ≤ nI i := nI_ge g3 (by omega)
  have c3 : nI k < nI g := nI_lt g4 (by omega)
  obtain ⟨fi', j1, j2, j3⟩ := m_stand_next (fu := fu) (G := G) (nx := nx) (h'.fx (((fEq.rf fi).ui (nI (i + 1)) (k := 23) (by omega)).ui (nI (i + 1)) (k := 24) (by omega))) hw (g := g) (i := i) hg (by simp +decide only [ui_s, ui_n, e1]) (by simp +decide only [ui_s, ui_n]) (by simp +decide only [ui_s, ui_n]) g1 g2 g3 m
  refine ⟨fi', ?_, fun k hk => ?_, j3⟩
  · rw [fX10_stepsStand_0]
    simp +decide only [Option.bind_some, bn2_s, zz_0, zz_1, if_true, if_false, ite_true, ite_false, vI_i, vR_n, vR_r, vR_v, reduceCtorEq, gI_m hT, gR_m hT, rcv_m hT, pV_m hT, aI_24 hT, sV_24 hT, aI_3 hT, sV_3 hT, aI_18 hT, sV_18 hT, aI_19 hT, sV_19 hT, aI_mZ hT, sV_mZ hT, ui_s, ui_n, ua_s, ua_k, e1, e2, e3, h5, c1, c2, c3, fX10_stepsStand_31, nI_ad1]
    exact j1
  · rw [j2 k hk, ui_n _ _ (by omega), ui_n _ _ (by omega)]
theorem m_gapStep (h : mS T z nW fi ar j f n) (hw : ar 6 j = 0 ∨ ar 6 j = 3) {g i k : Nat} (hg : ar 6 j = 0 → g = 1) (e1 : fi 22 = nI g) (e2 : fi 23 = nI i) (e3 : fi 24 = nI k) (g1 : 1 ≤ g) (g2 : g ≤ k) (g3 : k ≤ i) (g4 : i < n) (hfu : 3 ≤ fu) :
    ∃ fi', fX10_goesOn fu (mw T G nx z fi (aw ar w)) z = some (nI (1 - (gSt w f n g i k).2.2.2.2), mw T G nx z fi' (aw ar (gSt w f n g i k).1)) ∧ fEq fi fi' ∧ fi' 22 = nI (gSt w f n g i k).2.1 ∧ fi' 23 = nI (gSt w f n g i k).2.2.1 ∧ fi' 24 = nI (gSt w f n g i k).2.2.2.1 := by
  have h' := h
  obtain ⟨hT, h1, h2, h3, h4, h5, h6⟩ := h
  obtain ⟨fu', rfl⟩ : ∃ fu', fu = fu' + 3 := ⟨fu - 3, by omega⟩
  have mk : ∀ w', mS T z nW fi (aw ar w') j f n := fun w' => ⟨hT, h1, h2, by rw [aw_n _ _ (by decide)]; exact h3, h4, h5, h6⟩
  have hw' : ∀ w', aw ar w' 6 j = 0 ∨ aw ar w' 6 j = 3 := fun w' => by rw [aw_n _ _ (by decide)]; exact hw
  have hg' : ∀ w', aw ar w' 6 j = 0 → g = 1 := fun w' => by rw [aw_n _ _ (by decide)]; exact hg
  have d1 : nI k - nI g = nI (k - g) := pk_sub g2
  have a1 := m_at2 (fu := fu' + 3) (G := G) (nx := nx) (w := w) h' (i := k - g) (by omega)
  have a2 := m_at2 (fu := fu' + 3) (G := G) (nx := nx) (w := w) h' (i := k) (by omega)
  have a3 := m_change (fu := fu' + 3) (G := G) (nx := nx) (w := w) h' (i := k - g) (k := k) (by omega) (by omega)
  have b01 : ∀ o : Nat, o ≤ 1 → zz (nI (1 - o)) = some (nI (1 - o)) := fun o ho => by
    have : o = 0 ∨ o = 1 := by omega
    rcases this with rfl | rfl <;> rfl
  have ho : (gNx n g i).2.2 ≤ 1 := gNx_o n g i
  have e6 : ∀ r : Option (Int32 × hS), (if aw ar w 6 j = 0 then r else if aw ar w 6 j = 1 then ((rcv (mw T G nx z fi (aw ar w)) 9 (some z)).bind fun b14 => bn2 (fX10_heapGoes (fu' + 3) (mw T G nx z fi (aw ar w)) b14) fun r12 S13 => (zz r12).bind (fun v => some (v, S13))) else if aw ar w 6 j = 2 then ((rcv (mw T G nx z fi (aw ar w)) 9 (some z)).bind fun b23 => bn2 (fX10_mergeGoes (fu' + 3) (mw T G nx z fi (aw ar w)) b23) fun r21 S22 => (zz r21).bind (fun v => some (v, S22))) else if aw ar w 6 j = 3 then r else ((rcv (mw T G nx z fi (aw ar w)) 9 (some z)).bind fun b32 => bn2 (fX10_rangeGoes (fu' + 3) (mw T G nx z fi (aw ar w)) b32) fun r30 S31 => (zz r30).bind (fun v => some (v, S31)))) = r := by
    intro r
    rcases hw' w with hh | hh <;> simp +decide only [hh, if_true, if_false]
  have st : fX10_goesOn (fu' + 3) (mw T G nx z fi (aw ar w)) z = fX10_goesOn_40 (fu' + 3) (mw T G nx z fi (aw ar w)) z := by
    simp +decide only [fX10_goesOn, gR_m hT, gI_m hT, h1, aI_24 hT, h2, Option.bind_some]
    exact e6 _
  rw [st]
  simp +decide only [fX10_goesOn_40, fX10_stepsGo, Option.bind_some, bn2_s, zz_0, zz_1, if_true, if_false, ite_true, ite_false, vI_i, vR_n, vR_r, vR_v, reduceCtorEq, gI_m hT, gR_m hT, rcv_m hT, pV_m hT, aI_24 hT, sV_24 hT, aI_3 hT, sV_3 hT, aI_18 hT, sV_18 hT, aI_19 hT, sV_19 hT, aI_mZ hT, sV_mZ hT, ui_s, ui_n, ua_s, ua_k, e1, e2, e3, d1, a1, a2, gSt]
  by_cases c1 : w (f + (k - g)) ≤ w (f + k)
  · simp only [c1, if_true]
    obtain ⟨fi', j1, j2, j3⟩ := m_stand_next (fu := fu' + 3) (G := G) (nx := nx) ((mk w).fx (((fEq.rf fi).ui (nI (i + 1)) (k := 23) (by omega)).ui (nI (i + 1)) (k := 24) (by omega))) (hw' w) (g := g) (i := i) (hg' w) (by simp +decide only [ui_s, ui_n, e1]) (by simp +decide only [ui_s, ui_n]) (by simp +decide only [ui_s, ui_n]) g1 (by omega) g4 (fu' + 1)
    refine ⟨fi', ?_, fun k hk => by rw [j2 k hk, ui_n _ _ (by omega), ui_n _ _ (by omega)], j3⟩
    simp +decide only [Option.bind_some, bn2_s, zz_0, zz_1, if_true, if_false, ite_true, ite_false, vI_i, vR_n, vR_r, vR_v, reduceCtorEq, gI_m hT, gR_m hT, rcv_m hT, pV_m hT, aI_24 hT, sV_24 hT, aI_3 hT, sV_3 hT, aI_18 hT, sV_18 hT, aI_19 hT, sV_19 hT, aI_mZ hT, sV_mZ hT, ui_s, ui_n, ua_s, ua_k, e2, nI_ad1, fX10_stepsGo_75, fX10_stepsStand, j1, b01 _ ho]
  · simp only [c1, if_false]
    by_cases c2 : g ≤ k - g
    · simp only [c2, if_true]
      refine ⟨ui fi 24 (nI (k - g)), ?_, (fEq.rf fi).ui _ (by omega), by simp +decide only [ui_s, ui_n, e1], by simp +decide only [ui_s, ui_n, e2], by simp +decide only [ui_s, ui_n]⟩
      have := m_stand_ok (fu := fu' + 3) (G := G) (nx := nx) ((mk (sw w (f + (k - g)) (f + k))).fx ((fEq.rf fi).ui (nI (k - g)) (k := 24) (by omega))) (g := g) (i := i) (k := k - g) (by simp +decide only [ui_s, ui_n, e1]) (by simp +decide only [ui_s, ui_n, e2]) (by simp +decide only [ui_s, ui_n]) g1 g4 c2 (by omega) (fu' + 2)
      simp +decide only [Option.bind_some, bn2_s, zz_0, zz_1, if_true, if_false, ite_true, ite_false, vI_i, vR_n, vR_r, vR_v, reduceCtorEq, gI_m hT, gR_m hT, rcv_m hT, pV_m hT, aI_24 hT, sV_24 hT, aI_3 hT, sV_3 hT, aI_18 hT, sV_18 hT, aI_19 hT, sV_19 hT, aI_mZ hT, sV_mZ hT, ui_s, ui_n, ua_s, ua_k, e1, e3, d1, a3, fX10_stepsGo_75, fX10_stepsStand, this]
      rfl
    · simp only [c2, if_false]
      obtain ⟨fi', j1, j2, j3⟩ := m_stand_low (fu := fu' + 3) (G := G) (nx := nx) ((mk (sw w (f + (k - g)) (f + k))).fx ((fEq.rf fi).ui (nI (k - g)) (k := 24) (by omega))) (hw' _) (g := g) (i := i) (k := k - g) (hg' _) (by simp +decide only [ui_s, ui_n, e1]) (by simp +decide only [ui_s, ui_n, e2]) (by simp +decide only [ui_s, ui_n]) g1 (by omega) g4 (by omega) fu'
      refine ⟨fi', ?_, fun k hk => by rw [j2 k hk, ui_n _ _ (by omega)], j3⟩
      simp +decide only [Option.bind_some, bn2_s, zz_0, zz_1, if_true, if_false, ite_true, ite_false, vI_i, vR_n, vR_r, vR_v, reduceCtorEq, gI_m hT, gR_m hT, rcv_m hT, pV_m hT, aI_24 hT, sV_24 hT, aI_3 hT, sV_3 hT, aI_18 hT, sV_18 hT, aI_19 hT, sV_19 hT, aI_mZ hT, sV_mZ hT, ui_s, ui_n, ua_s, ua_k, e1, e3, d1, a3, fX10_stepsGo_75, fX10_stepsStand, j1, b01 _ ho]
end MS
