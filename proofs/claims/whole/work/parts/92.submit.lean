section SB
variable {T T' : Nat → Option (Nat × Nat)} {F F' F0 F1 G : Nat → Nat → Value} {nx nx' nx2 c nW nJ st st' i j fu z n K wy : Nat} {fi fi' : Nat → Int32} {ar ar' : Nat → Nat → Int32} {ad da ad' da' : Nat → Nat} {bl bl' : bL} {ql : List Nat} {w w' : Nat → Int32}
theorem two_phase2 {fx fm : hS → Option (Int32 × hS)} {k : Nat} (hT : mT T' (c + 6) nW) (hF : mF F (c + 6) fi ar = F) (h : ∀ (G : Nat → Nat → Value), ∃ r F' fi' ar' bl' ql' st', fx (mkS T F nx) = some (r, mkS T' F' nx') ∧ fm (mw T' G nx' (c + 6) fi ar) = some (r, mw T' G nx' (c + 6) fi' ar') ∧ XI T' F' nx' c nW nJ fi' ar' ad' da' bl' ql' ∧ MI nW nJ st' fi' ar' bl' ql' ∧ st' ≤ st + k ∧ (∀ q, c + 6 ≤ q → q < c + 21 → F' q = F q)) :
    ∃ r S1 S2, fx (mkS T F nx) = some (r, S1) ∧ fm S1 = some (r, S2) ∧ OUT c nW nJ (st + k) S2 := by
  obtain ⟨r0, F0, _, _, _, _, _, x0, _, _, _, _, w0⟩ := h F
  obtain ⟨r1, F1, fi1, ar1, bl1, ql1, st1, x1, y1, z1, u1, v1, w1⟩ := h F0
  rw [x0] at x1
  injection x1 with x1
  injection x1 with e1 e2
  subst e1
  have k0 := mF_keep (F' := F0) hF (fun q h1 h2 => w0 q h1 (by omega))
  refine ⟨r0, mkS T' F0 nx', mw T' F0 nx' (c + 6) fi1 ar1, x0, ?_, ?_⟩
  · have : mkS T' F0 nx' = mw T' F0 nx' (c + 6) fi ar := by show _ = mkS T' _ nx'; rw [k0]
    rw [this]; exact y1
  · exact ⟨T', mF F1 (c + 6) fi1 ar1, nx', fi1, ar1, ad', da', bl1, ql1, st1, v1, mkS_mF e2, INV.mk hT u1 z1⟩
theorem ST.tN (hT : T nx = none) (h : ST T F c nW nJ fi w) : ST (tN T nx K) F c nW nJ fi w := by
  obtain ⟨⟨x1, x2, x3, x4, x5, x6, x7, x8⟩, s2, s3, s4, s5, s6, s7, s8, s9, s10, s11, s12, s13⟩ := h
  exact ⟨⟨tN_kd hT x1, tN_kd hT x2, by rw [tN_ln hT x2]; exact x3, x4, tN_kd hT x5, x6, x7, x8⟩, tN_kd hT s2, s3, s4, s5, s6, s7, s8, s9, s10, tN_kd hT s11, by rw [tN_ln hT s11]; exact s12, tN_kd hT s13⟩
/-- the rows that submit leaves, but for what begin does -/
def sbA (ar : Nat → Nat → Int32) (fi : Nat → Int32) (j : Nat) : Nat → Nat → Int32 := ua (ua (ua ar 4 j 2) 11 j (fi 16)) 12 j (fi 15)
def sbE (ar : Nat → Nat → Int32) (fi : Nat → Int32) (j : Nat) (w : Nat → Int32) (v : Int32) (fi' : Nat → Int32) : Nat → Nat → Int32 := pb (ua (aw (sbA ar fi j) w) 14 j v) fi' j
theorem sbA_n {k : Nat} (m : Nat) (h : k ≠ 4 ∧ k ≠ 11 ∧ k ≠ 12) : sbA ar fi j k m = ar k m := by simp [sbA, ua, h]
theorem sbE_3 (v : Int32) : sbE ar fi j w v fi' 3 = w := by funext m; simp [sbE, pb, aw, ua]
theorem sbE_n (v : Int32) {k : Nat} (m : Nat) (h : k ≠ 3 ∧ k ≠ 4 ∧ k ≠ 11 ∧ k ≠ 12 ∧ k ≠ 14 ∧ k ≠ 19) : sbE ar fi j w v fi' k m = ar k m := by simp [sbE, pb, aw, ua, sbA, h]
theorem sbE_j (v : Int32) {k m : Nat} (h : m ≠ j) (h2 : k ≠ 3 ∧ k ≠ 19) : sbE ar fi j w v fi' k m = ar k m := by simp [sbE, pb, aw, ua, sbA, h, h2]
theorem sbE_4 (v : Int32) : sbE ar fi j w v fi' 4 j = 2 := by simp [sbE, pb, aw, ua, sbA]
theorem sbE_11 (v : Int32) : sbE ar fi j w v fi' 11 j = fi 16 := by simp [sbE, pb, aw, ua, sbA]
theorem sbE_12 (v : Int32) : sbE ar fi j w v fi' 12 j = fi 15 := by simp [sbE, pb, aw, ua, sbA]
theorem sbE_14 (v : Int32) : sbE ar fi j w v fi' 14 j = v := by simp [sbE, pb, aw, ua]
theorem sbE_19 (v : Int32) {t : Nat} (hi : i ≠ j) (ht : t < 10) : sbE ar fi j w v fi' 19 (10 * i + t) = ar 19 (10 * i + t) := by
  simp only [sbE, pb]
  rw [if_neg (by omega)]
  simp [aw, ua, sbA]
theorem sbE_v (v : Int32) {k : Nat} (h1 : 22 ≤ k) (h2 : k ≤ 31) : sbE ar fi j w v fi' 19 (10 * j + (k - 22)) = fi' k := by
  simp only [sbE, pb]
  rw [if_pos ⟨trivial, by omega, by omega⟩]
  congr 1; omega
/-- begin, few numbers or many -/
theorem sub_begin {sa ca ba g f0 : Nat} {gi : Nat → Int32} (hT : mT T z nW) (hM : MI nW nJ st fi ar bl ql) (hl : ar 4 j ≠ 0) (n3 : ar 5 j = nI n) (n4 : n ≤ 1000) (n5 : ar 6 j = nI wy) (n6 : wy ≤ 4) (hA : xA T F c nW (ar 3)) (hsa : kd T sa = some (Kw wy)) (hsn : sa ≠ c + 2) (hFs : F sa = gS c ca ba (Kw wy) gi) (hca : kd T ca = some 1) (hca0 : F ca 0 = .int (ar 9 j)) (hba : kd T ba = some 1) (hba0 : F ba 0 = .int (ar 10 j)) (hba1 : F ba 1 = .int (bsz ar j)) (hg : nG (Kw wy) gi n (if n < 2 then 1 else 0) g) (hg0 : wy = 0 → g = 1) (fa : fi' 20 = nI j) (fb : fi' 21 = nI n) (hr : ∀ k, k ≠ 4 → k ≠ 11 → k ≠ 12 → ar' k j = ar k j) (hr3 : ar' 3 = ar 3)
    (hg3 : wy = 3 → 2 ≤ n → 1 ≤ g ∧ g < n ∧ fX10_widest fu (mw T G nx2 z fi' ar') z = some (nI g, mw T G nx2 z fi' ar')) (hfu : 3000 < fu) :
    ∃ gi' fi'' w' o, o ≤ 1 ∧ dS_begin fu (mkS T F nx) (some sa) = some ((), mkS T (wF (oF F sa (gS c ca ba (Kw wy) gi')) c w') nx) ∧ fX10_begins fu (mw T G nx2 z fi' ar') z = some (nI (1 - o), mw T G nx2 z fi'' (aw ar' w')) ∧ gi' 2 = nI n ∧ gi' 3 = nI o ∧ fEq fi' fi'' ∧ (o = 0 → ∃ bf, (wy = 2 ∨ wy = 4 → ar 10 j = nI bf ∧ bf ≤ 3000) ∧ SR wy (Kw wy) gi' fi'' w' n bf) ∧ (∀ k, k ≠ j → ar 4 k = 2 → ar 6 k = 4 → ∀ b, b ≤ 3000 → ar 10 k = nI b → ∀ t, t < 24 → w' (b + t) = ar 3 (b + t)) := by
  have hW := hM.1.2.2.2.2.2.1
  have hj := hM.lt24 hl
  have same : wF (oF F sa (gS c ca ba (Kw wy) gi)) c (ar 3) = F := by
    funext q
    by_cases e1 : q = c + 2
    · rw [e1, wF_s]; exact hA.2.2.2.2.2.2.2.symm
    · rw [wF_n e1]
      by_cases e2 : q = sa
      · rw [e2]; simp [oF, hFs]
      · simp [oF, e2]
  have e0 : xs T F nx c sa ca ba (Kw wy) gi (ar 3) = mkS T F nx := by show mkS T _ nx = _; rw [same]
  have aws : aw ar' (ar 3) = ar' := by rw [← hr3]; exact aw_self ar'
  by_cases c1 : n < 2
  · rw [if_pos c1] at hg
    obtain ⟨gi', x1, x2, x3⟩ := x_begin0 (fu := fu) (F := F) (nx := nx) (c := c) (ca := ca) (ba := ba) (w := ar 3) ⟨hsa, hsn, Kw_K wy⟩ hg.1 hg.2.1
    obtain ⟨fi'', y1, y2⟩ := m_begin0 (fu := fu) (G := G) (nx := nx2) (wy := wy) (ar := ar') hT fa hj fb c1 (by rw [hr 6 (by decide) (by decide) (by decide)]; exact n5) n6 (by omega)
    rw [e0] at x1
    exact ⟨gi', fi'', ar 3, 1, by omega, x1, by rw [aws]; exact y1, x2, x3, y2, fun z => by omega, fun _ _ _ _ _ _ _ _ _ => rfl⟩
  · rw [if_neg c1] at hg
    obtain ⟨f, bf, q1, q2, q3, q4, q5⟩ := sort_at hM hl n3 n4 n5 n6 (by omega)
    have hx : xS T F c nW sa ca ba (Kw wy) f n := ⟨hA.1, hA.2.1, hA.2.2.1, hA.2.2.2.1, hA.2.2.2.2.1, hA.2.2.2.2.2.1, hA.2.2.2.2.2.2.1, hsa, hca, by rw [hca0, q1], q2, Kw_K wy, n4⟩
    have hxb : sX T F nW wy ba bf n := by
      refine ⟨fun hw => ?_, fun hw => ?_⟩
      · obtain ⟨e1, e2, e3⟩ := q5 (Or.inl hw)
        refine ⟨hba, by rw [hba0, e1], ?_⟩
        have : bz wy n = n := by rw [hw]; simp [bz]
        omega
      · obtain ⟨e1, e2, e3⟩ := q5 (Or.inr hw)
        have e4 : bz wy n = 24 := by rw [hw]; simp [bz]
        refine ⟨⟨hba, by rw [hba0, e1], by omega⟩, ?_⟩
        rw [hba1, bsz_z n3 n5 n6, e4]; rfl
    have hm : mS T z nW fi' ar' j f n := ⟨hT, fa, hj, by rw [hr 9 (by decide) (by decide) (by decide)]; exact q1, q2, fb, n4⟩
    have hmb : sM ar' nW wy j f n bf := ⟨by rw [hr 6 (by decide) (by decide) (by decide)]; exact n5, n6, fun z => by rw [hr 10 (by decide) (by decide) (by decide)]; exact q4.2.2 z⟩
    obtain ⟨gi', fi'', w', x1, y1, x2, x3, y2, x4, x5⟩ := s_begin (fu := fu) (nx := nx) (nx2 := nx2) (G := G) (w := ar 3) hx hxb hm hmb (by omega) hg hg0 (fun z => by rw [aws]; exact hg3 z (by omega)) (by omega)
    rw [e0] at x1
    rw [aws] at y1
    exact ⟨gi', fi'', w', 0, by omega, x1, y1, x2, x3, y2, fun _ => ⟨bf, fun z => ⟨(q5 z).1, by have := (q5 z).2.1; omega⟩, x4⟩, sort_fr hM hl q3 (fun z => (q5 z).2.2) x5⟩
theorem op_submit (h : INV T F nx c nW nJ st fi ar ad da bl ql) (hfu : 3000 < fu) (hst : st < 2 ^ 31) (x : Int32) : ∃ r S1 S2, fX9_submit fu (mkS T F nx) c x = some (r, S1) ∧ fX10_submit fu S1 (c + 6) x = some (r, S2) ∧ OUT c nW nJ (st + 1) S2 := by
  obtain ⟨hT, hF, hM, hX⟩ := id h
  obtain ⟨hA, kc, s3, s4, s5, s6, s7, s8, s9, s10, s11, s12, k5⟩ := id hX.1
  have f1 := hM.1.2.1
  have hJ := hM.1.2.2.2.1
  have hQ := hM.2.2.2.2.2.2
  rcases jcase nJ ar x with hb | ⟨j, hjJ, rfl, hl⟩
  · refine ⟨-1, mkS T F nx, mkS T F nx, ?_, ?_, OUT.same h (by omega)⟩
    · simp only [fX9_submit, rcv_mk kc, x_find0 hX hJ hb, Option.bind_some, bn2_s, zz_0, zz_1, if_true, if_false, ite_true, ite_false, vI_i, vR_n, vR_r, vR_v, reduceCtorEq]
    · rw [h.w]
      simp only [fX10_submit, rcv_m hT, m_isJob0 hT f1 hJ hb, Option.bind_some, bn2_s, zz_0, zz_1, if_true, if_false, ite_true, ite_false, vI_i, vR_n, vR_r, vR_v, reduceCtorEq]
  · have hj : j < 24 := by omega
    have hL := (hX.2.2.2.1 j).2.1 hl
    have jl := hL.2.1
    have e5 : F (ad (200 + j)) 5 = .int (ar 4 j) := hL.2.2.2.1 5 (by omega)
    by_cases cs : ar 4 j = 1
    · obtain ⟨s, n, wy, p, n1, n2, n3, n4, n5, n6, n7, n8⟩ := hM.2.2.1 j hl
      have hTn : T nx = none := hX.2.2.2.2.1 nx (Nat.le_refl _)
      have ne : ∀ {q k : Nat}, kd T q = some k → q ≠ nx := fun h e => by rw [e] at h; simp [kd, hTn] at h
      have hnx := hX.2.2.2.2.2
      have kT : ∀ q k, kd T q = some k → kd (tN T nx (Kw wy)) q = some k := fun q k hk => tN_kd hTn hk
      have kT' : ∀ q, q ≠ nx → kd (tN T nx (Kw wy)) q = kd T q := fun q hq => by simp only [kd, tN, hq, if_false]
      have hT' : mT (tN T nx (Kw wy)) (c + 6) nW := mT_ex hT (fun q k hk => by
        have : q ≠ nx := fun e => by rw [e, hTn] at hk; cases hk
        simp only [tN, this, if_false]; exact hk)
      refine two_phase2 (T' := tN T nx (Kw wy)) (nx' := nx + 1) (ad' := fun q => if q = 300 + j then nx else ad q) (da' := fun a => if a = nx then 300 + j else da a) (k := 1) (fx := fun S => fX9_submit fu S c (nI j)) (fm := fun S => fX10_submit fu S (c + 6) (nI j)) hT' hF (fun G => ?_)
      obtain ⟨b1, b2, b3, b4, b5⟩ := hL.2.2.2.2 j (Or.inl rfl)
      obtain ⟨d1, d2, d3, d4, d5⟩ := hL.2.2.2.2 (100 + j) (Or.inr rfl)
      rw [bOf_j _ hj] at b4
      rw [zOf_j _ hj, n3] at b5
      rw [bOf_1] at d4
      rw [zOf_1] at d5
      /- the reference's world before begins -/
      generalize hf1 : tu (ui fi 16 (fi 16 + 1)) (sbA ar fi j) j = fi1
      have f20 : fi1 20 = nI j := by rw [← hf1]; simp [tu]
      have f21 : fi1 21 = nI n := by rw [← hf1]; simp only [tu]; rw [if_neg (by decide), if_pos trivial, sbA_n _ (by decide)]; exact n3
      have flo : ∀ q, q < 20 → q ≠ 16 → fi1 q = fi q := fun q h1 h2 => by rw [← hf1]; simp only [tu]; rw [if_neg (by omega), if_neg (by omega), if_neg (by omega), ui_n _ _ h2]
      have f16 : fi1 16 = nI (st + 1) := by rw [← hf1]; simp only [tu]; rw [if_neg (by omega), if_neg (by omega), if_neg (by omega), ui_s, hM.1.2.2.2.2.2.2.2]; exact nI_ad1 st
      /- the gap -/
      obtain ⟨g, gx, gm, g0⟩ : ∃ g, (wy = 3 → ∀ S, fX9_greatestGapBelow fu S (nI n) = some (nI g, S)) ∧ (wy = 3 → 2 ≤ n → 1 ≤ g ∧ g < n ∧ fX10_widest fu (mw (tN T nx (Kw wy)) G (nx + 1) (c + 6) fi1 (sbA ar fi j)) (c + 6) = some (nI g, mw (tN T nx (Kw wy)) G (nx + 1) (c + 6) fi1 (sbA ar fi j))) ∧ (wy = 0 → g = 1) := by
        by_cases c3 : wy = 3
        · by_cases c4 : n < 2
          · exact ⟨1, fun _ S => gap_0 c4 (by omega) S, fun _ z => by omega, fun _ => rfl⟩
          · obtain ⟨g, q1, q2, q3, q4⟩ := gap_j (fu := fu) (G := G) (nx := nx + 1) (ar := sbA ar fi j) hT' f21 n4 (by omega) (by omega)
            exact ⟨g, fun _ => q3, fun _ _ => ⟨q1, q2, q4⟩, fun z => by omega⟩
        · exact ⟨1, fun z => absurd z c3, fun z => absurd z c3, fun _ => rfl⟩
      generalize hFb : u2 (u2 F (ad (200 + j)) 5 (.int 2)) (ad (200 + j)) 7 (.int (fi 15)) = Fb
      have Fbq : ∀ q, q ≠ ad (200 + j) → Fb q = F q := fun q hq => by rw [← hFb, u2_q hq, u2_q hq]
      have Fbj : ∀ k, k ≠ 5 → k ≠ 7 → Fb (ad (200 + j)) k = F (ad (200 + j)) k := fun k h1 h2 => by rw [← hFb, u2_k h2, u2_k h1]
      have jca : ad j ≠ ad (200 + j) := fun e => by rw [e, hL.1] at b1; exact absurd b1 (by decide)
      have jba : ad (100 + j) ≠ ad (200 + j) := fun e => by rw [e, hL.1] at d1; exact absurd d1 (by decide)
      obtain ⟨gi, so1, so2⟩ := x_sortingOf (fu := fu) (T := T) (F := Fb) (nx := nx) (c := c) (ca := ad j) (ba := ad (100 + j)) (n := n) (wy := wy) (g := g) hTn kc (by rw [Fbq _ (by omega)]; exact s3) hL.1 (by rw [Fbj 1 (by decide) (by decide), ← n5]; exact hL.2.2.2.1 1 (by omega)) (by rw [Fbj 2 (by decide) (by decide)]; exact hL.2.2.2.1 2 (by omega)) (by rw [Fbj 3 (by decide) (by decide)]; exact hL.2.2.2.1 3 (by omega)) b1 (by rw [Fbq _ jca]; exact b5) n4 n6 gx g0
      generalize hFc : u2 (oF Fb nx (gS c (ad j) (ad (100 + j)) (Kw wy) gi)) (ad (200 + j)) 9 (.ref nx) = Fc
      have jnx : ad (200 + j) ≠ nx := ne hL.1
      have Fcq : ∀ q, q ≠ ad (200 + j) → q ≠ nx → Fc q = F q := fun q h1 h2 => by rw [← hFc, u2_q h1]; simp only [oF, h2, if_false]; exact Fbq q h1
      have Fcn : Fc nx = gS c (ad j) (ad (100 + j)) (Kw wy) gi := by rw [← hFc, u2_q (Ne.symm jnx)]; simp [oF]
      have Fcj : ∀ k, k ≠ 9 → Fc (ad (200 + j)) k = Fb (ad (200 + j)) k := fun k h1 => by rw [← hFc, u2_k h1]; simp only [oF, jnx, if_false]
      have hA' : xA (tN T nx (Kw wy)) Fc c nW (ar 3) := by
        obtain ⟨x1, x2, x3, x4, x5, x6, x7, x8⟩ := (hX.1.tN (K := Kw wy) hTn).1
        exact ⟨x1, x2, x3, x4, x5, by rw [Fcq _ (by omega) (by omega)]; exact x6, by rw [Fcq _ (by omega) (by omega)]; exact x7, by rw [Fcq _ (by omega) (by omega)]; exact x8⟩
      obtain ⟨gi', fi2, w', o, o1, t1, t2, t3, t4, t5, t6, t7⟩ := sub_begin (fu := fu) (nx := nx + 1) (nx2 := nx + 1) (G := G) (z := c + 6) (T := tN T nx (Kw wy)) (F := Fc) (c := c) (sa := nx) (ca := ad j) (ba := ad (100 + j)) (gi := gi) (g := g) (fi' := fi1) (ar' := sbA ar fi j) (f0 := 0) hT' hM hl n3 n4 n5 n6 hA' tN_s (by omega) Fcn (kT _ _ b1) (by rw [Fcq _ jca (ne b1)]; exact b4) (kT _ _ d1) (by rw [Fcq _ jba (ne d1)]; exact d4) (by rw [Fcq _ jba (ne d1)]; exact d5) so2 g0 f20 f21 (fun k h1 h2 h3 => sbA_n j ⟨h1, h2, h3⟩) (by funext m; exact sbA_n m (by decide)) gm hfu
      generalize hFd : wF (oF Fc nx (gS c (ad j) (ad (100 + j)) (Kw wy) gi')) c w' = Fd at t1
      have Fdq : ∀ q, q ≠ c + 2 → q ≠ nx → Fd q = Fc q := fun q h1 h2 => by rw [← hFd, wF_n h1]; simp only [oF, h2, if_false]
      have Fdn : Fd nx = gS c (ad j) (ad (100 + j)) (Kw wy) gi' := by rw [← hFd, wF_n (by omega)]; simp [oF]
      have Fdw : Fd (c + 2) = fun i => .int (w' i) := by rw [← hFd, wF_s]
      have Fdj : ∀ k, Fd (ad (200 + j)) k = if k = 9 then .ref nx else if k = 7 then .int (fi 15) else if k = 5 then .int 2 else F (ad (200 + j)) k := fun k => by
        rw [Fdq _ (by omega) jnx]
        by_cases e9 : k = 9
        · rw [e9, if_pos rfl, ← hFc, u2_s]
        · rw [if_neg e9, Fcj k e9]
          by_cases e7 : k = 7
          · rw [e7, if_pos rfl, ← hFb, u2_s]
          · rw [if_neg e7]
            by_cases e5 : k = 5
            · rw [e5, if_pos rfl, ← hFb, u2_k (by decide), u2_s]
            · rw [if_neg e5, Fbj k e5 e7]
      have Fdo : ∀ q, q ≠ c + 2 → q ≠ nx → q ≠ ad (200 + j) → Fd q = F q := fun q h1 h2 h3 => by rw [Fdq q h1 h2, Fcq q h3 h2]
      have hnj : j ∉ ql := fun z => by rw [(hQ.2.1 j).mp z] at cs; exact absurd cs (by decide)
      obtain ⟨Fe, u1, u2', u3⟩ := enter_l (fu := fu) (nx := nx + 1) (c := c) (T := tN T nx (Kw wy)) (F1 := Fd) (ad := ad) (da := da) (j := j) (ql := ql) (Q := ar 7) (kT _ _ k5) (fun m hm => by
        have hml : ar 4 m ≠ 0 := by
          rcases hm with e | e
          · rw [e]; exact hl
          · rw [(hQ.2.1 m).mp e]; decide
        have hLm := (hX.2.2.2.1 m).2.1 hml
        refine ⟨kT _ _ hLm.1, hLm.2.2.1, ?_⟩
        by_cases e : m = j
        · subst e
          rw [Fdj, if_neg (by decide), if_neg (by decide), if_neg (by decide)]
          exact hLm.2.2.2.1 4 (by omega)
        · have := hLm.2.1
          rw [Fdo _ (by omega) (ne hLm.1) (fun z => e (hX.ij hml hl z))]
          exact hLm.2.2.2.1 4 (by omega)) hQ.1 hnj (by
        rw [Fdo _ (by omega) (ne k5) (by omega)]
        refine jch_congr (jch_T kT hX.2.2.1) (fun q hq => ?_)
        obtain ⟨m, hm, e⟩ := List.mem_map.mp hq
        have hml : ar 4 m ≠ 0 := by rw [(hQ.2.1 m).mp hm]; decide
        have hLm := (hX.2.2.2.1 m).2.1 hml
        have := hLm.2.1
        rw [← e]
        show Fd (ad (200 + m)) 10 = F (ad (200 + m)) 10
        rw [Fdo _ (by omega) (ne hLm.1) (fun z => by have := hX.ij hml hl z; rw [this] at hm; exact hnj hm)]) (by have := hM.qlen; omega)
      have nk : ∀ {q k : Nat}, kd T q = some k → k ≠ 4 → kd (tN T nx (Kw wy)) q ≠ some 4 := fun h1 h2 => by rw [kT _ _ h1]; intro z; injection z with z; omega
      have snk : kd (tN T nx (Kw wy)) nx ≠ some 4 := by rw [tN_s]; intro z; injection z with z; have := Kw_K wy; omega
      have en : ∀ q, q ≠ c + 2 → q ≠ c + 5 → q ≠ nx → q ≠ ad (200 + j) → kd (tN T nx (Kw wy)) q ≠ some 4 → Fe q = F q := fun q h1 h2 h3 h4 h5 => by
        funext k
        rw [u3 q k h2 (Or.inr h5), Fdo q h1 h3 h4]
      generalize hE : sbE ar fi j w' (nI (1 - o)) fi2 = ar5
      have r4 : ar5 4 j = 2 := by rw [← hE, sbE_4]
      have r3 : ar5 3 = w' := by rw [← hE, sbE_3]
      have rj : ∀ k m, m ≠ j → k ≠ 3 ∧ k ≠ 19 → ar5 k m = ar k m := fun k m h1 h2 => by rw [← hE, sbE_j _ h1 h2]
      have rn : ∀ k, k ≠ 3 ∧ k ≠ 4 ∧ k ≠ 11 ∧ k ≠ 12 ∧ k ≠ 14 ∧ k ≠ 19 → ar5 k = ar k := fun k h1 => by funext m; rw [← hE, sbE_n _ _ h1]
      have hMF : MF nW nJ (st + 1) fi2 := by
        obtain ⟨m1, m2, m3, m4, m5, m6, ⟨qu, m7, m7'⟩, m8⟩ := id hM.1
        exact ⟨by rw [t5 0 (by omega), flo 0 (by omega) (by omega)]; exact m1, by rw [t5 1 (by omega), flo 1 (by omega) (by omega)]; exact m2, m3, m4, m5, m6, ⟨qu, by rw [t5 2 (by omega), flo 2 (by omega) (by omega)]; exact m7, m7'⟩, by rw [t5 16 (by omega)]; exact f16⟩
      have hQ' : QL ar5 (st + 1) (insQ (ar 7) j ql) := by
        have := hQ.add (ar' := ar5) (j := j) (by rw [cs]; decide) (fun m hm => rj 4 m hm (by decide)) r4 (fun m hm => rj 7 m hm (by decide)) (fun m hm => rj 11 m hm (by decide)) (by rw [← hE, sbE_11]; exact hM.1.2.2.2.2.2.2.2) hst
        rw [rn 7 (by decide)] at this
        exact this
      have hM' : MI nW nJ (st + 1) fi2 ar5 bl (insQ (ar 7) j ql) := hM.upj hMF hl (fun m hm => rj 4 m hm (by decide)) ⟨2, n, wy, p, r4, by omega, by rw [rn 5 (by decide)]; exact n3, n4, by rw [rn 6 (by decide)]; exact n5, n6, by rw [rn 7 (by decide)]; exact n7, n8⟩ (by rw [r4]; decide) (fun m hm => rj 7 m hm (by decide)) (rn 5 (by decide)) (rn 6 (by decide)) (rn 9 (by decide)) (rn 10 (by decide)) hQ'
      refine ⟨0, Fe, fi2, ar5, bl, insQ (ar 7) j ql, st + 1, ?_, ?_, ?_, hM', Nat.le_refl _, fun q q1 q2 => en q (by omega) (by omega) (by omega) (by omega) (by rw [kT' q (by omega)]; exact mT_n4 hT q1 (by omega))⟩
      · have c4 : u2 F (ad (200 + j)) 5 (.int 2) c 4 = .int (fi 15) := by rw [u2_q (by omega)]; exact s7
        have kc' := kT _ _ kc
        have kj' := kT _ _ hL.1
        have k5' := kT _ _ k5
        have c2 : Fd c 2 = .ref (c + 5) := by rw [Fdo _ (by omega) (by omega) (by omega)]; exact s5
        have c0 : oF Fb nx (gS c (ad j) (ad (100 + j)) (Kw wy) gi) = oF Fb nx (gS c (ad j) (ad (100 + j)) (Kw wy) gi) := rfl
        simp +decide only [fX9_submit, rcv_mk kc, x_find1 hX hJ hjJ hl, gI_mk hL.1, e5, cs, pV_mk hL.1, gI_mk kc, c4, hFb, so1, va_rf, pV_mk kj', hFc, t1, gR_mk kc', c2, rcv_mk k5', u1, Option.bind_some, bn2_s, zz_0, zz_1, if_true, if_false, ite_true, ite_false, vI_i, vR_n, vR_r, vR_v, reduceCtorEq]
      · have hmi := m_isJob1 (fu := fu) (G := G) (nx := nx + 1) (fi := fi) (ar := ar) hT' f1 hJ hjJ hl
        have hmg := m_gte (fu := fu) (G := G) (nx := nx + 1) (fi := fi) (ar := ua ar 4 j 2) hT' hj
        have hmu := m_tu (fu := fu) (G := G) (nx := nx + 1) (fi := ui fi 16 (fi 16 + 1)) (ar := sbA ar fi j) hT' hj
        rw [hf1] at hmu
        have hmp := m_putsBy (fu := fu) (G := G) (nx := nx + 1) (fi := fi2) (ar := ua (aw (sbA ar fi j) w') 14 j (nI (1 - o))) hT' (by rw [t5 20 (by omega)]; exact f20) hj
        have hzz : zz (nI (1 - o)) = some (nI (1 - o)) := by
          rcases (show o = 0 ∨ o = 1 by omega) with rfl | rfl <;> rfl
        have hsb : ua (ua (ua ar 4 j 2) 11 j (fi 16)) 12 j (fi 15) = sbA ar fi j := rfl
        have hT := hT'
        have hse : pb (ua (aw (sbA ar fi j) w') 14 j (nI (1 - o))) fi2 j = ar5 := hE
        rw [hse] at hmp
        simp +decide only [fX10_submit, Option.bind_some, bn2_s, zz_0, zz_1, if_true, if_false, ite_true, ite_false, vI_i, vR_n, vR_r, vR_v, reduceCtorEq, gI_m hT, gR_m hT, rcv_m hT, pV_m hT, aI_24 hT, sV_24 hT, aI_3 hT, sV_3 hT, aI_18 hT, sV_18 hT, aI_19 hT, sV_19 hT, aI_mZ hT, sV_mZ hT, ui_s, ui_n, ua_s, ua_k, hmi, hj, cs, hmg, hsb, hmu, t2, hzz, hmp]
      · refine hX.line (sj := nx) (j := j) hM kT (fun q hq => ?_) (by omega) ?_ ?_ (fun q hq => if_neg (by omega)) (fun m hm => if_neg (by omega)) (fun q k hk => if_neg (ne hk)) (fun m _ hm2 => ?_) (fun q hq => ?_) (fun q k h1 h2 h3 h4 h5 h6 => ?_) (fun m hm => ?_) hl (fun m hm => ?_) (fun m hm k k1 k2 => rj k m hm (by omega)) (fun m hm t ht => by rw [← hE]; exact sbE_19 _ hm ht) (fun m hm b1 b2 b b3 b4 t ht => by rw [r3]; exact t7 m hm b1 b2 b b3 b4 t ht) ?_
        · simp only [tN]; rw [if_neg (by omega)]; exact hX.2.2.2.2.1 q (by omega)
        · have hS' := hX.1.tN (K := Kw wy) hTn
          exact hS'.cg (fun k _ => by rw [en c (by omega) (by omega) (by omega) (by omega) (nk kc (by decide))]) (by rw [en c (by omega) (by omega) (by omega) (by omega) (nk kc (by decide)), t5 15 (by omega), flo 15 (by omega) (by omega)]; exact s7) (by rw [en c (by omega) (by omega) (by omega) (by omega) (nk kc (by decide)), t5 17 (by omega), flo 17 (by omega) (by omega)]; exact s8) (en _ (by omega) (by omega) (by omega) (by omega) (nk hA.1 (by decide))) (fun k _ => by rw [en _ (by omega) (by omega) (by omega) (by omega) (nk hA.2.2.2.2.1 (by decide))]) (by rw [r3, ← Fdw]; funext k; exact u3 _ _ (by omega) (Or.inr (nk hA.2.1 (by decide)))) (by rw [t5 2 (by omega), flo 2 (by omega) (by omega)])
        · exact u2'
        · obtain ⟨K, gi, o, _, hk, _⟩ := (hX.2.2.2.1 m).2.2 hm2
          exact ne hk
        · rcases hq with z | z | z <;> exact ne z
        · rw [u3 q k h3 (by rw [kT' q h5]; exact h6), Fdo q h2 h5 h4]
        · rcases mem_insQ.mp hm with e | e
          · omega
          · have := hM.qlt m e; omega
        · rw [rj 4 m (by omega) (by decide)]; exact hM.2.1 m hm
        · have Fej : ∀ k, k ≠ 10 → Fe (ad (200 + j)) k = Fd (ad (200 + j)) k := fun k hk => u3 _ _ (by omega) (Or.inl hk)
          refine ⟨fun z => ?_, fun z => ?_, fun z => ?_⟩
          · have e2 : ¬ (200 + j = 300 + j) := by omega
            simp only [e2, if_false]
            rw [r4, if_neg (by decide), en _ (by omega) (by omega) (ne s11) (by omega) (nk s11 (by decide))]
            have := (hX.2.2.2.1 j).1 z
            rw [if_neg hl] at this; exact this
          · have hxl : XL T Fe c ar5 ad da j := by
              refine hL.of hj (fun k hk => ?_) (fun q hq => ?_) (by rw [rn 5 (by decide)]) (by rw [rn 6 (by decide)]) (by rw [rn 9 (by decide)]) (by rw [rn 10 (by decide)])
              · rw [Fej k (by omega), Fdj k, if_neg (by omega)]
                by_cases e7 : k = 7
                · subst e7; rw [if_pos rfl]; simp only [jv]; rw [← hE, sbE_12]
                · rw [if_neg e7]
                  by_cases e5 : k = 5
                  · subst e5; rw [if_pos rfl]; simp only [jv]; rw [r4]
                  · rw [if_neg e5, hL.2.2.2.1 k hk]
                    have : k = 0 ∨ k = 1 ∨ k = 2 ∨ k = 3 ∨ k = 4 ∨ k = 6 ∨ k = 8 := by omega
                    rcases this with rfl | rfl | rfl | rfl | rfl | rfl | rfl <;> simp [jv, rn 6 (by decide), rn 7 (by decide), rn 8 (by decide), rn 13 (by decide)]
              · obtain ⟨b1, b2, b3, b4, b5⟩ := hL.2.2.2.2 q hq
                exact en (ad q) (by omega) (by omega) (ne b1) (fun z => by rw [z, hL.1] at b1; exact absurd b1 (by decide)) (nk b1 (by decide))
            refine hxl.cg hj kT (fun _ _ _ => rfl) (fun m hm => if_neg (by omega)) (fun m hm => if_neg ?_) (fun _ _ => rfl) (fun _ _ _ _ => rfl)
            rcases (show m = 0 ∨ m = 1 ∨ m = 2 by omega) with rfl | rfl | rfl
            · rw [show 100 * 0 + j = j by omega]; exact ne b1
            · exact ne d1
            · exact ne hL.1
          · have i0 : ¬ (j = 300 + j) := by omega
            have i1 : ¬ (100 + j = 300 + j) := by omega
            have i2 : ¬ (200 + j = 300 + j) := by omega
            refine ⟨Kw wy, gi', o, ?_, ?_, Kw_K wy, ?_, ?_, ?_, o1, ?_, t4, ?_, fun z2 => ?_⟩
            · simp only [i2, if_false, if_true]
              rw [Fej 9 (by decide), Fdj, if_pos rfl]
            · simp only [if_true]; exact tN_s
            · simp only [if_true]; omega
            · simp only [if_true]
            · simp only [i0, i1, if_false, if_true]
              rw [← Fdn]; funext k; exact u3 _ _ (by omega) (Or.inr snk)
            · rw [rn 5 (by decide), t3]; exact n3.symm
            · rw [← hE, sbE_14]
            · obtain ⟨bf, q1, q2⟩ := t6 z2
              refine ⟨wy, n, bf, by rw [rn 6 (by decide)]; exact n5, n6, by rw [rn 5 (by decide)]; exact n3, n4, fun z3 => by rw [rn 10 (by decide)]; exact q1 z3, rfl, ?_⟩
              rw [r3]
              exact q2.fi (fun k k1 k2 => by simp only [sv]; rw [← hE]; exact sbE_v _ k1 k2)
    · refine ⟨-3, mkS T F nx, mkS T F nx, ?_, ?_, OUT.same h (by omega)⟩
      · simp only [fX9_submit, rcv_mk kc, x_find1 hX hJ hjJ hl, gI_mk hL.1, e5, cs, Option.bind_some, bn2_s, zz_0, zz_1, if_true, if_false, ite_true, ite_false, vI_i, vR_n, vR_r, vR_v, reduceCtorEq]
      · rw [h.w]
        simp +decide only [fX10_submit, Option.bind_some, bn2_s, zz_0, zz_1, if_true, if_false, ite_true, ite_false, vI_i, vR_n, vR_r, vR_v, reduceCtorEq, gI_m hT, gR_m hT, rcv_m hT, pV_m hT, aI_24 hT, sV_24 hT, aI_3 hT, sV_3 hT, aI_18 hT, sV_18 hT, aI_19 hT, sV_19 hT, aI_mZ hT, sV_mZ hT, ui_s, ui_n, ua_s, ua_k, m_isJob1 hT f1 hJ hjJ hl, hj, cs]
end SB
