section CM
variable {T T' : Nat → Option (Nat × Nat)} {F F' F1 F2 G : Nat → Nat → Value} {nx nx2 c nW nJ st st' i j fu K o qu z : Nat} {fi fi1 gi : Nat → Int32} {ar ar' : Nat → Nat → Int32} {ad ad' da da' : Nat → Nat} {bl bl' : bL} {ql ql' l : List Nat} {w w' : Nat → Int32}
theorem SR.n2 {wy K n bf : Nat} {gi fi w : Nat → Int32} (h : SR wy K gi fi w n bf) : 2 ≤ n := by
  rcases h with ⟨_, _, g, i, k, _, _, _, _, h1, h2, h3, h4, _⟩ | ⟨_, _, _, e, _, _, _, _, _, h1, h2, _⟩ | ⟨_, _, q, wd, l, y, u, z, v, p, _, _, ⟨h1, h2, h3, h4, _⟩, _⟩ | ⟨_, _, t, l, hh, s, k, _, _, h1, h2, _⟩ <;> omega
/-- where the blocks of a job with comparisons lie -/
theorem sort_at (hM : MI nW nJ st fi ar bl ql) (hl : ar 4 j ≠ 0) {n wy : Nat} (h5 : ar 5 j = nI n) (hn : n ≤ 1000) (h6 : ar 6 j = nI wy) (hwy : wy ≤ 4) (h2 : 2 ≤ n) : ∃ f bf, ar 9 j = nI f ∧ f + n ≤ nW ∧ (j, f, n) ∈ bl ∧ sM ar nW wy j f n bf ∧ (wy = 2 ∨ wy = 4 → ar 10 j = nI bf ∧ bf + bz wy n ≤ nW ∧ (100 + j, bf, bz wy n) ∈ bl) := by
  obtain ⟨f, c1, c2, c3⟩ := hM.cell hl h5 hn (by omega)
  have hj := hM.lt24 hl
  by_cases hw : wy = 2 ∨ wy = 4
  · have hb : 0 < bz wy n := by unfold bz; rcases hw with rfl | rfl <;> simp <;> omega
    obtain ⟨bf, b1, b2, b3⟩ := hM.buf hl h5 h6 hwy hn hb
    refine ⟨f, bf, c1, c2, c3, ⟨h6, hwy, fun _ => ⟨b1, b2, ?_⟩⟩, fun _ => ⟨b1, b2, b3⟩⟩
    rcases srt_disj hM.2.2.2.2.2.1 _ c3 _ b3 with z | z | z
    · injection z with z; omega
    · exact Or.inl z
    · exact Or.inr z
  · exact ⟨f, 0, c1, c2, c3, ⟨h6, hwy, fun z => absurd z hw⟩, fun z => absurd z hw⟩
theorem sort_fr (hM : MI nW nJ st fi ar bl ql) (hl : ar 4 j ≠ 0) {n wy f bf : Nat} (h3 : (j, f, n) ∈ bl) (hb : wy = 2 ∨ wy = 4 → (100 + j, bf, bz wy n) ∈ bl) (hf : wfr w w' f n bf (bz wy n)) : ∀ k, k ≠ j → ar 4 k = 2 → ar 6 k = 4 → ∀ b, b ≤ 3000 → ar 10 k = nI b → ∀ t, t < 24 → w' (b + t) = w (b + t) := by
  intro k hk k2 k6 b b1 b2 t ht
  have hj := hM.lt24 hl
  have hkl : ar 4 k ≠ 0 := by rw [k2]; decide
  have d1 := hM.wd (i := k) h3 (by omega) hkl k6 b1 b2
  refine hf _ (by omega) ?_
  by_cases hw : wy = 2 ∨ wy = 4
  · have d2 := hM.wd (i := k) (hb hw) (by omega) hkl k6 b1 b2
    omega
  · have : bz wy n = 0 := by unfold bz; rw [if_neg (by omega), if_neg (by omega)]
    omega
theorem tick_cmp (hT : mT T z nW) (hM : MI nW nJ st fi ar bl ql) (h2 : ar 4 j = 2) (hXL : XL T F c ar ad da j) (hA : xA T F2 c nW (ar 3)) (hSO : SO T F c ar ad da j) (hF9 : ∀ k, k ≤ 9 → F2 (ad (200 + j)) k = F (ad (200 + j)) k) (hFb : ∀ q, q = j ∨ q = 100 + j → F2 (ad q) = F (ad q)) (hFs : F2 (ad (300 + j)) = F (ad (300 + j)))
    (f2 : fi1 2 = nI qu) (hqu : qu ≤ 200) (f20 : fi1 20 = nI j) (f21 : fi1 21 = ar 5 j) (fv : ∀ k, 22 ≤ k → k ≤ 31 → fi1 k = sv ar j k) (hfu : 3000 < fu) :
    ∃ K gi' fi' w' o' k, (K = 2 ∨ K = 3 ∨ K = 5 ∨ K = 6) ∧ kd T (ad (300 + j)) = some K ∧ fX4_compareUpTo fu (mkS T F2 nx) (ad (200 + j)) (nI qu) = some (nI k, mkS T (u2 (wF (oF F2 (ad (300 + j)) (gS c (ad j) (ad (100 + j)) K gi')) c w') (ad (200 + j)) 6 (.int (ar 8 j + nI k))) nx) ∧
      fX10_tick_29 fu fu (mw T G nx2 z fi1 ar) z (nI j) 0 = fX10_tick_82 fu (mw T G nx2 z fi' (aw (ua (ua ar 8 j (ar 8 j + nI k)) 14 j (nI (1 - o'))) w')) z (nI j) ∧
      o' ≤ 1 ∧ gi' 2 = ar 5 j ∧ gi' 3 = nI o' ∧ fi' 17 = fi1 17 + nI k ∧ (∀ q, q < 22 → q ≠ 17 → fi' q = fi1 q) ∧ (o' = 0 → ∃ wy n bf, ar 6 j = nI wy ∧ wy ≤ 4 ∧ ar 5 j = nI n ∧ n ≤ 1000 ∧ (wy = 2 ∨ wy = 4 → ar 10 j = nI bf ∧ bf ≤ 3000) ∧ K = Kw wy ∧ SR wy K gi' fi' w' n bf) ∧
      (∀ k, k ≠ j → ar 4 k = 2 → ar 6 k = 4 → ∀ b, b ≤ 3000 → ar 10 k = nI b → ∀ t, t < 24 → w' (b + t) = ar 3 (b + t)) := by
  have hl : ar 4 j ≠ 0 := by rw [h2]; decide
  have hj := hM.lt24 hl
  have hW := hM.1.2.2.2.2.2.1
  obtain ⟨K, gi, o, g1, g2, g3, g4, g5, g6, g7, g8, g9, g10, g11⟩ := hSO
  have j9 : F2 (ad (200 + j)) 9 = .ref (ad (300 + j)) := by rw [hF9 9 (by omega)]; exact g1
  have j6 : F2 (ad (200 + j)) 6 = .int (ar 8 j) := by rw [hF9 6 (by omega)]; exact hXL.2.2.2.1 6 (by omega)
  have hs : F2 (ad (300 + j)) = gS c (ad j) (ad (100 + j)) K gi := by rw [hFs]; exact g6
  have same : wF (oF F2 (ad (300 + j)) (gS c (ad j) (ad (100 + j)) K gi)) c (ar 3) = F2 := by
    funext q
    by_cases e1 : q = c + 2
    · rw [e1, wF_s]; exact hA.2.2.2.2.2.2.2.symm
    · rw [wF_n e1]
      by_cases e2 : q = ad (300 + j)
      · rw [e2]; simp [oF, hs]
      · simp [oF, e2]
  have jn : ad (200 + j) ≠ ad (300 + j) := fun e => by rw [← e, hXL.1] at g2; injection g2 with g2; omega
  have jn2 : ad (200 + j) ≠ c + 2 := by have := hXL.2.1; omega
  refine ⟨K, ?_⟩
  by_cases ho : o = 0
  · subst ho
    obtain ⟨wy, n, bf0, q1, q2, q3, q4, q5, qK, q6⟩ := g11 rfl
    have hn2 := q6.n2
    obtain ⟨f, bf, c1, c2, c3, c4, c5⟩ := sort_at hM hl q3 q4 q1 q2 hn2
    have q6' : SR wy K gi (sv ar j) (ar 3) n bf := by
      by_cases hw : wy = 4
      · have : bf = bf0 := by
          have e1 := (c5 (Or.inr hw)).1
          have e3 := (c5 (Or.inr hw)).2.1
          obtain ⟨e2, e4⟩ := q5 (Or.inr hw)
          have hb1 : bf < 2 ^ 31 := by omega
          have hb2 : bf0 < 2 ^ 31 := by omega
          exact (nI_eq hb1 hb2).mp (by rw [← e1, e2])
        rw [this]; exact q6
      · exact q6.w (fun z => absurd z hw)
    have hR := q6'.fi (fi' := fi1) fv
    obtain ⟨b1, b2, b3, b4, b5⟩ := hXL.2.2.2.2 j (Or.inl rfl)
    obtain ⟨d1, d2, d3, d4, d5⟩ := hXL.2.2.2.2 (100 + j) (Or.inr rfl)
    rw [bOf_j _ hj, c1] at b4
    rw [bOf_1] at d4
    rw [zOf_1] at d5
    have hx : xS T F2 c nW (ad (300 + j)) (ad j) (ad (100 + j)) K f n := ⟨hA.1, hA.2.1, hA.2.2.1, hA.2.2.2.1, hA.2.2.2.2.1, hA.2.2.2.2.2.1, hA.2.2.2.2.2.2.1, g2, b1, by rw [hFb j (Or.inl rfl)]; exact b4, c2, g3, q4⟩
    have hxb : sX T F2 nW wy (ad (100 + j)) bf n := by
      refine ⟨fun hw => ?_, fun hw => ?_⟩
      · obtain ⟨e1, e2, e3⟩ := c5 (Or.inl hw)
        refine ⟨d1, by rw [hFb _ (Or.inr rfl), d4, e1], ?_⟩
        have : bz wy n = n := by rw [hw]; simp [bz]
        omega
      · obtain ⟨e1, e2, e3⟩ := c5 (Or.inr hw)
        have e4 : bz wy n = 24 := by rw [hw]; simp [bz]
        refine ⟨⟨d1, by rw [hFb _ (Or.inr rfl), d4, e1], by omega⟩, ?_⟩
        rw [hFb _ (Or.inr rfl), d5, bsz_z q3 q1 q2, e4]; rfl
    have hm : mS T z nW fi1 ar j f n := ⟨hT, f20, hj, c1, c2, by rw [f21]; exact q3, q4⟩
    obtain ⟨k, gi', fi', w', o', r1, r2, r3, r4, r5, r6, r7, r8, r9⟩ := s_loop (fu := fu) (nx := nx) (nx2 := nx2) (G := G) (z := z) (j := j) (wy := wy) (bf := bf) (qu := qu) hx hxb hXL.1 j9 (by omega) (by omega) qu fu 0 0 gi fi1 ar (ar 3) (by omega) (by omega) hm c4 f2 (by rw [g8]; exact q3) g9 (by omega) g10 (fun _ => hR)
    have e0 : xs T F2 nx c (ad (300 + j)) (ad j) (ad (100 + j)) K gi (ar 3) = mkS T F2 nx := by show mkS T _ nx = _; rw [same]
    rw [e0, Nat.zero_add] at r1
    rw [aw_self] at r2
    refine ⟨gi', fi', w', o', k, g3, g2, ?_, r2, r3, by rw [r4]; exact q3.symm, r5, r6, r7, fun z => ⟨wy, n, bf, q1, q2, q3, q4, fun z2 => ⟨(c5 z2).1, by have := (c5 z2).2.1; omega⟩, qK, r8 z⟩, sort_fr hM hl c3 (fun z => (c5 z).2.2) r9⟩
    have r1' : fX4_compareUpTo fu (mkS T F2 nx) (ad (200 + j)) (nI qu) = fX4_compareUpTo_37 fu (xs T F2 nx c (ad (300 + j)) (ad j) (ad (100 + j)) K gi' w') (ad (200 + j)) (nI k) := r1
    rw [r1']
    have j6' : wF (oF F2 (ad (300 + j)) (gS c (ad j) (ad (100 + j)) K gi')) c w' (ad (200 + j)) 6 = .int (ar 8 j) := by rw [wF_n jn2]; simp [oF, jn, j6]
    simp only [fX4_compareUpTo_37, gI_mk hXL.1, j6', pV_mk hXL.1, Option.bind_some, bn2_s, zz_0, zz_1, if_true, if_false, ite_true, ite_false, vI_i, vR_n, vR_r, vR_v, reduceCtorEq]
  · have ho1 : o = 1 := by omega
    subst ho1
    refine ⟨gi, fi1, ar 3, 1, 0, g3, g2, ?_, ?_, by omega, g8, g9, (Int32.add_zero _).symm, fun _ _ _ => rfl, fun z => by omega, fun _ _ _ _ _ _ _ _ _ => rfl⟩
    · rw [same]
      obtain ⟨m, rfl⟩ : ∃ k, fu = k + 1 := ⟨fu - 1, by omega⟩
      have e37 : fX4_compareUpTo_37 (m + 1) (mkS T F2 nx) (ad (200 + j)) 0 = some (nI 0, mkS T (u2 F2 (ad (200 + j)) 6 (.int (ar 8 j + nI 0))) nx) := by
        simp only [fX4_compareUpTo_37, gI_mk hXL.1, j6, pV_mk hXL.1, Option.bind_some, bn2_s, zz_0, zz_1, if_true, if_false, ite_true, ite_false, vI_i, vR_n, vR_r, vR_v, reduceCtorEq]; rfl
      have h3 : gI4 (mkS T F2 nx) 3 (some (ad (300 + j))) = some (nI 1) := by
        rw [gI4_mk g2 g3, hs]; simp only [gS]; rw [if_neg (by decide), if_neg (by decide), if_neg (by omega), g9]; rfl
      have hz : ¬ (nI 1 : Int32) = 0 := by decide
      by_cases c1 : nI qu ≤ 0
      · simp only [fX4_compareUpTo, fX4_compareUpTo_2, c1, if_true, e37]
      · simp only [fX4_compareUpTo, fX4_compareUpTo_2, c1, if_false, gR_mk hXL.1, j9, h3, hz, e37, Option.bind_some, bn2_s, zz_0, zz_1, if_true, if_false, ite_true, ite_false, vI_i, vR_n, vR_r, vR_v, reduceCtorEq]
    · obtain ⟨m, rfl⟩ : ∃ k, fu = k + 1 := ⟨fu - 1, by omega⟩
      have self : aw (ua (ua ar 8 j (ar 8 j + nI 0)) 14 j (nI (1 - 1))) (ar 3) = ar := by
        rw [ua_self (show ar 8 j = ar 8 j + nI 0 from (Int32.add_zero _).symm), ua_self (by rw [g10]), aw_self]
      rw [self]
      have hz : (nI (1 - 1) : Int32) = 0 := rfl
      by_cases c1 : nI qu ≤ 0
      · simp +decide only [fX10_tick_29, Option.bind_some, bn2_s, zz_0, zz_1, if_true, if_false, ite_true, ite_false, vI_i, vR_n, vR_r, vR_v, reduceCtorEq, gI_m hT, gR_m hT, rcv_m hT, pV_m hT, aI_24 hT, sV_24 hT, aI_3 hT, sV_3 hT, aI_18 hT, sV_18 hT, aI_19 hT, sV_19 hT, aI_mZ hT, sV_mZ hT, ui_s, ui_n, ua_s, ua_k, f2, c1]
      · simp +decide only [fX10_tick_29, Option.bind_some, bn2_s, zz_0, zz_1, if_true, if_false, ite_true, ite_false, vI_i, vR_n, vR_r, vR_v, reduceCtorEq, gI_m hT, gR_m hT, rcv_m hT, pV_m hT, aI_24 hT, sV_24 hT, aI_3 hT, sV_3 hT, aI_18 hT, sV_18 hT, aI_19 hT, sV_19 hT, aI_mZ hT, sV_mZ hT, ui_s, ui_n, ua_s, ua_k, f2, c1, hj, g10, hz]
end CM
