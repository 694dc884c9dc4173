def opA (ar : Nat → Nat → Int32) (j : Nat) (a b p : Int32) : Nat → Nat → Int32 := ua (ua (ua (ua (ua (ua (ua ar 4 j 1) 5 j a) 6 j b) 7 j p) 8 j 0) 12 j (-1)) 13 j (-1)
def opE (ar : Nat → Nat → Int32) (j : Nat) (a b p v1 v2 : Int32) (w : Nat → Int32) : Nat → Nat → Int32 := aw (ua (ua (opA ar j a b p) 9 j v1) 10 j v2) w
section OE
variable {ar ar' : Nat → Nat → Int32} {j k m st nW nJ : Nat} {a b p v1 v2 : Int32} {w : Nat → Int32} {fi : Nat → Int32} {bl : bL} {ql : List Nat}
theorem opA_j (h : m ≠ j) : opA ar j a b p k m = ar k m := by simp [opA, ua, h]
theorem opA_n (h : k ≠ 4 ∧ k ≠ 5 ∧ k ≠ 6 ∧ k ≠ 7 ∧ k ≠ 8 ∧ k ≠ 12 ∧ k ≠ 13) : opA ar j a b p k m = ar k m := by simp [opA, ua, h]
theorem opA_4 : opA ar j a b p 4 j = 1 := by simp [opA, ua]
theorem opA_5 : opA ar j a b p 5 j = a := by simp [opA, ua]
theorem opA_6 : opA ar j a b p 6 j = b := by simp [opA, ua]
theorem opE_j (h : m ≠ j) (h3 : k ≠ 3) : opE ar j a b p v1 v2 w k m = ar k m := by simp [opE, aw, opA, ua, h, h3]
theorem opE_3 : opE ar j a b p v1 v2 w 3 = w := by simp [opE, aw]
theorem opE_4 : opE ar j a b p v1 v2 w 4 j = 1 := by simp [opE, aw, opA, ua]
theorem opE_5 : opE ar j a b p v1 v2 w 5 j = a := by simp [opE, aw, opA, ua]
theorem opE_6 : opE ar j a b p v1 v2 w 6 j = b := by simp [opE, aw, opA, ua]
theorem opE_7 : opE ar j a b p v1 v2 w 7 j = p := by simp [opE, aw, opA, ua]
theorem opE_8 : opE ar j a b p v1 v2 w 8 j = 0 := by simp [opE, aw, opA, ua]
theorem opE_9 : opE ar j a b p v1 v2 w 9 j = v1 := by simp [opE, aw, opA, ua]
theorem opE_10 : opE ar j a b p v1 v2 w 10 j = v2 := by simp [opE, aw, opA, ua]
theorem opE_12 : opE ar j a b p v1 v2 w 12 j = -1 := by simp [opE, aw, opA, ua]
theorem opE_13 : opE ar j a b p v1 v2 w 13 j = -1 := by simp [opE, aw, opA, ua]
theorem opE_19 : opE ar j a b p v1 v2 w 19 m = ar 19 m := by simp [opE, aw, opA, ua]
/-- rows of a number that stands free do not count -/
theorem MI.dead (hM : MI nW nJ st fi ar bl ql) (h0 : ar 4 j = 0) (h0' : ar' 4 j = 0) (ha : ∀ m, m ≠ j → ∀ k, 4 ≤ k → k ≤ 13 → ar' k m = ar k m) : MI nW nJ st fi ar' bl ql := by
  obtain ⟨hf, hs0, hN, hB, hz, hs, hQ⟩ := hM
  have h4 : ∀ m, ar' 4 m = ar 4 m := fun m => by
    by_cases e : m = j
    · rw [e, h0, h0']
    · exact ha m e 4 (by omega) (by omega)
  have hbz : ∀ q, jb q ≠ j → cod q → bOf ar' q = bOf ar q ∧ zOf ar' q = zOf ar q := fun q hq hc => by
    rcases cod_cs hc with ⟨e1, e2⟩ | ⟨e1, e2⟩
    · rw [e1, bOf_j _ e2, bOf_j _ e2, zOf_j _ e2, zOf_j _ e2]; exact ⟨ha _ hq 9 (by omega) (by omega), ha _ hq 5 (by omega) (by omega)⟩
    · rw [e1, bOf_1, bOf_1, zOf_1, zOf_1]
      refine ⟨ha _ hq 10 (by omega) (by omega), ?_⟩
      unfold bsz
      rw [ha _ hq 6 (by omega) (by omega), ha _ hq 5 (by omega) (by omega)]
  have hlv : ∀ q, ar 4 (jb q) ≠ 0 → jb q ≠ j := fun q hq e => hq (by rw [e]; exact h0)
  refine ⟨hf, fun m hm => by rw [h4]; exact hs0 m hm, fun m hm => ?_, ?_, fun q hq hl => ?_, hs, ?_⟩
  · rw [h4] at hm
    have hmj : m ≠ j := fun e => hm (by rw [e]; exact h0)
    obtain ⟨s, n, wy, p, n1, n2, n3, n4, n5, n6, n7, n8⟩ := hN m hm
    exact ⟨s, n, wy, p, by rw [h4]; exact n1, n2, by rw [ha m hmj 5 (by omega) (by omega)]; exact n3, n4, by rw [ha m hmj 6 (by omega) (by omega)]; exact n5, n6, by rw [ha m hmj 7 (by omega) (by omega)]; exact n7, n8⟩
  · refine mB_g hB (fun x hx => ?_) (fun q hq hl => ?_)
    · obtain ⟨c1, c2, _⟩ := hB.1 x hx
      exact ⟨by rw [h4]; exact c2, hbz _ (hlv _ c2) c1⟩
    · rw [h4] at hl
      exact Or.inr ⟨hl, (hbz q (hlv _ hl) hq).1⟩
  · rw [h4] at hl
    obtain ⟨e1, e2⟩ := hbz q (hlv _ hl) hq
    rw [e1, e2]; exact hz q hq hl
  · exact hQ.keep (by rw [h0]; decide) (fun m _ => h4 m) (by rw [h0']; decide) (fun m hm => ha m hm 7 (by omega) (by omega)) (fun m hm => ha m hm 11 (by omega) (by omega))
end OE
section OP
variable {T : Nat → Option (Nat × Nat)} {F : Nat → Nat → Value} {nx c nW nJ st fu : Nat} {fi : Nat → Int32} {ar : Nat → Nat → Int32} {ad da : Nat → Nat} {bl : bL} {ql : List Nat}
theorem open_at (h : INV T F nx c nW nJ st fi ar ad da bl ql) (hfu : 3001 < fu) {n wy p j : Nat} (hn : n ≤ 1000) (hwy : wy ≤ 4) (hp : p ≤ 3) (hjJ : j < nJ) (h0 : ar 4 j = 0) (hlf : ∀ k, k < j → ar 4 k ≠ 0) : ∃ r S1 S2, fX9_open fu (mkS T F nx) c (nI n) (nI wy) (nI p) = some (r, S1) ∧ fX10_open fu S1 (c + 6) (nI n) (nI wy) (nI p) = some (r, S2) ∧ OUT c nW nJ st S2 := by
  obtain ⟨hT, hF, hM, hX⟩ := id h
  obtain ⟨hA, kc, s3, s4, s5, s6, s7, s8, s9, s10, s11, s12, k5⟩ := id hX.1
  have hfr := hX.2.2.2.2.1
  have hnx := hX.2.2.2.2.2
  have f0 := hM.1.1
  have f1 := hM.1.2.1
  have hJ := hM.1.2.2.2.1
  have hW := hM.1.2.2.2.2.2.1
  have hQ := hM.2.2.2.2.2.2
  have hB := hM.2.2.2.1
  have hs := hM.2.2.2.2.2.1
  have hj : j < 24 := by omega
  have n0 : ¬ nI n < 0 := nI_pos (by omega)
  have n1 : ¬ (1000 : Int32) < nI n := i32_nlt.mpr (nI_le (b := 1000) hn (by omega))
  have w0 : ¬ nI wy < 0 := nI_pos (by omega)
  have w1 : ¬ (4 : Int32) < nI wy := i32_nlt.mpr (nI_le (b := 4) hwy (by omega))
  have p0 : ¬ nI p < 0 := nI_pos (by omega)
  have p1 : nI p ≤ (3 : Int32) := nI_le (b := 3) hp (by omega)
  have p2 : ¬ (3 : Int32) < nI p := i32_nlt.mpr p1
  have lt : ∀ {q k : Nat}, kd T q = some k → q < nx := fun {q k} hk => by
    by_cases e : q < nx
    · exact e
    · simp [kd, hfr q (by omega)] at hk
  have kT := t3_kd (T := T) (nx := nx) hfr
  have hT' : mT (t3 T nx) (c + 6) nW := mT_ex hT (fun q k hk => by
    have : q < nx := by
      by_cases e : q < nx
      · exact e
      · rw [hfr q (by omega)] at hk; cases hk
    rw [t3_o (by omega)]; exact hk)
  have hf3 : ∀ q, nx + 3 ≤ q → t3 T nx q = none := fun q hq => by rw [t3_o (by omega)]; exact hfr q (by omega)
  have hST : ST (t3 T nx) F c nW nJ fi (ar 3) := by
    have a1 := hX.1.tN (K := 4) (hfr nx (by omega))
    have a2 := a1.tN (nx := nx + 1) (K := 1) (by simp [tN, hfr (nx + 1) (by omega)])
    exact a2.tN (nx := nx + 2) (K := 1) (by simp [tN, hfr (nx + 2) (by omega)])
  /- the new addresses -/
  generalize had : (fun q => if q = j then nx + 1 else if q = 100 + j then nx + 2 else if q = 200 + j then nx else ad q : Nat → Nat) = ad'
  generalize hda : (fun a => if a = nx then 200 + j else if a = nx + 1 then j else if a = nx + 2 then 100 + j else da a : Nat → Nat) = da'
  have d0 : ad' j = nx + 1 := by rw [← had]; simp
  have d1 : ad' (100 + j) = nx + 2 := by
    rw [← had]; simp only; rw [if_neg (by omega), if_pos trivial]
  have d2 : ad' (200 + j) = nx := by
    rw [← had]; simp only; rw [if_neg (by omega), if_neg (by omega), if_pos trivial]
  have d3 : ∀ q, q ≠ j → q ≠ 100 + j → q ≠ 200 + j → ad' q = ad q := fun q a b c => by rw [← had]; simp only [a, b, c, if_false]
  have e0 : da' nx = 200 + j := by rw [← hda]; simp
  have e1 : da' (nx + 1) = j := by rw [← hda]; simp
  have e2 : da' (nx + 2) = 100 + j := by rw [← hda]; simp
  have e3 : ∀ a, a < nx → da' a = da a := fun a ha => by rw [← hda]; simp only; rw [if_neg (by omega), if_neg (by omega), if_neg (by omega)]
  have live : ∀ q, cod q → ar 4 (jb q) ≠ 0 → q ≠ j ∧ q ≠ 100 + j ∧ ad' q = ad q := fun q hq hl => by
    have hjb : jb q ≠ j := fun e => hl (by rw [e]; exact h0)
    have a : q ≠ j := fun e => hjb (by rw [e]; exact jb_j j hj)
    have b : q ≠ 100 + j := fun e => hjb (by rw [e]; exact jb_1 j)
    exact ⟨a, b, d3 q a b (by have := cod_lt hq; omega)⟩
  have hC : chL (t3 T nx) c ad' (fun q => (cod q ∧ ar 4 (jb q) ≠ 0) ∨ q = j ∨ q = 100 + j) := by
    have old : ∀ q, cod q → ar 4 (jb q) ≠ 0 → ad' q < nx := fun q h1 h2 => by rw [(live q h1 h2).2.2]; exact lt (hX.bk h1 h2).1
    refine ⟨fun q hq => ?_, fun q q' hq hq' e => ?_⟩
    · rcases hq with ⟨a, b⟩ | rfl | rfl
      · rw [(live q a b).2.2]; exact ⟨kT _ _ (hX.bk a b).1, (hX.bk a b).2.1⟩
      · rw [d0]; exact ⟨t3_1, by omega⟩
      · rw [d1]; exact ⟨t3_2, by omega⟩
    · rcases hq with ⟨a, b⟩ | rfl | rfl
      · have o1 := old q a b
        rcases hq' with ⟨a', b'⟩ | rfl | rfl
        · rw [(live q a b).2.2, (live q' a' b').2.2] at e; exact hX.ib a b a' b' e
        · rw [e, d0] at o1; omega
        · rw [e, d1] at o1; omega
      · rcases hq' with ⟨a', b'⟩ | e' | e'
        · have o1 := old q' a' b'; rw [← e, d0] at o1; omega
        · exact e'.symm
        · rw [e', d0, d1] at e; omega
      · rcases hq' with ⟨a', b'⟩ | e' | e'
        · have o1 := old q' a' b'; rw [← e, d1] at o1; omega
        · rw [e', d0, d1] at e; omega
        · exact e'.symm
  have hlD : ∀ x ∈ bl, (cod x.1 ∧ ar 4 (jb x.1) ≠ 0) ∨ x.1 = j ∨ x.1 = 100 + j := fun x hx => Or.inl ⟨(hB.1 x hx).1, (hB.1 x hx).2.1⟩
  have hnd := mB_nd hB hW hs
  have hnl : ∀ x ∈ bl, x.1 ≠ j ∧ x.1 ≠ 100 + j := fun x hx => by
    have := live x.1 (hB.1 x hx).1 (hB.1 x hx).2.1
    exact ⟨this.1, this.2.1⟩
  have emap : bl.map (am ad') = bl.map (am ad) := by
    apply List.map_congr_left
    intro x hx
    simp only [am]; rw [(live x.1 (hB.1 x hx).1 (hB.1 x hx).2.1).2.2]
  obtain ⟨F3, y1, y2, z0, z1, z2, z3, z4, z5, z6, z7, z8, z9, z10, z11, z12⟩ := x_newJob (fu := fu) (F := F) hfr (nI j) (nI wy) (nI p)
  have hST3 : ST (t3 T nx) F3 c nW nJ fi (ar 3) := hST.cg (fun k _ => by rw [y2 c (by omega)]) (by rw [y2 c (by omega)]; exact s7) (by rw [y2 c (by omega)]; exact s8) (y2 _ (by omega)) (fun k _ => by rw [y2 _ (by omega)]) (by rw [y2 _ (by omega)]; exact hA.2.2.2.2.2.2.2) rfl
  have hA3 := hST3.1
  have hb3 : bch (t3 T nx) F3 (c + 3) (bl.map (am ad')) := by
    rw [emap]
    exact bch_congr (bch_T kT hX.2.1) (by rw [y2 _ (by omega)]) (fun q hq f _ => by rw [y2 q (lt (hX.bls hB q hq).1)])
  obtain ⟨u1, u2'⟩ := x_tcb (fu := fu) (nx := nx + 3) (ja := nx) (j := j) (wy := wy) (n := n) (l := bl) hC hA3 (kT _ _ kc) (by rw [y2 c (by omega)]; exact s3) t3_0 z1 (by rw [d0]; exact z2) (by rw [d1]; exact z3) hwy hj (Or.inr (Or.inl rfl)) (Or.inr (Or.inr rfl)) hlD hnd hs (fun x hx => (hnl x hx).1) (fun x hx => (hnl x hx).2) hb3 (by rw [y2 _ (by omega)]; exact s9) (by rw [y2 _ (by omega)]; exact s10) (by rw [d0]; exact z9) (by rw [d0]; exact z10) (by rw [d1]; exact z11) (by rw [d1]; exact z12) hn hfu
  have xlf := (x_lf (fu := fu) hX hJ nJ fu 0 (by omega) (by omega)).2 j (by omega) hjJ h0 (fun k _ hk => hlf k hk)
  have xpre : fX9_open fu (mkS T F nx) c (nI n) (nI wy) (nI p) = bn2 (fX9_takeCellsAndBuffer fu (mkS (t3 T nx) F3 (nx + 3)) c (some nx) (nI n)) fun r36 S37 => if r36 = 0 then (some ((-6 : Int32), S37)) else ((gR S37 8 0 (some c)).bind fun v45 => (gR S37 4 2 (some nx)).bind fun v48 => (gI S37 1 0 v48).bind fun v51 => (rcv S37 0 v45).bind fun b56 => bn2 (fX0_clear fu S37 b56 v51 (nI n)) fun _ S55 => (gR S55 8 1 (some c)).bind fun v62 => (sR S55 v62 (nI j) (some nx)).bind fun S65 => some (nI j, S65)) := by
    have jj : ¬ nI j < 0 := nI_pos (by omega)
    have jn : nI j < nI nJ := nI_lt hjJ (by omega)
    have xlf' : fX9_leastFreeNumber fu (mkS T F nx) c = some (nI j, mkS T F nx) := xlf
    have hln := aL_mk (F := F) (nx := nx) s11
    rw [s12] at hln
    simp +decide only [fX9_open, x_isCount, x_between, x_isPriority, n0, n1, w0, w1, p0, p2, rcv_mk kc, xlf', jj, gR_mk kc, s4, hln, jn, mkS_2, y1, rcv_mk (kT _ _ kc), Option.bind_some, bn2_s, zz_0, zz_1, if_true, if_false, ite_true, ite_false, vI_i, vR_n, vR_r, vR_v, reduceCtorEq]
  have mpre : ∀ G, fX10_open fu (mw (t3 T nx) G (nx + 3) (c + 6) fi ar) (c + 6) (nI n) (nI wy) (nI p) = bn2 (fX10_takes fu (mw (t3 T nx) G (nx + 3) (c + 6) fi (opA ar j (nI n) (nI wy) (nI p))) (c + 6) (nI j) 0) fun r47 S48 => if r47 = 0 then ((gR S48 9 4 (some (c + 6))).bind fun v56 => (sV S48 10 v56 (nI j) (.int (0 : Int32))).bind fun S59 => some ((-6 : Int32), S59)) else (fX10_open_151 fu fu S48 (c + 6) (nI n) (nI j) 0) := by
    intro G
    have ml := (m_lf (fu := fu) (T := t3 T nx) (G := G) (nx := nx + 3) (fi := fi) (ar := ar) (x1 := nI n) (x2 := nI wy) (x3 := nI p) hT' f1 hJ nJ fu 0 (by omega) (by omega)).2 j (by omega) hjJ h0 (fun k _ hk => hlf k hk)
    have ml' : fX10_open_35 fu fu (mw (t3 T nx) G (nx + 3) (c + 6) fi ar) (c + 6) (nI n) (nI wy) (nI p) 0 = _ := ml
    have jn : ¬ nI j = nI nJ := fun z => by have := (nI_eq (a := j) (b := nJ) (by omega) (by omega)).mp z; omega
    have hT := hT'
    have hop : ua (ua (ua (ua (ua (ua (ua ar 4 j 1) 5 j (nI n)) 6 j (nI wy)) 7 j (nI p)) 8 j 0) 12 j (-1)) 13 j (-1) = opA ar j (nI n) (nI wy) (nI p) := rfl
    simp +decide only [fX10_open, n0, n1, w0, w1, p0, p1, ml', fX10_open_59, Option.bind_some, bn2_s, zz_0, zz_1, if_true, if_false, ite_true, ite_false, vI_i, vR_n, vR_r, vR_v, reduceCtorEq, gI_m hT, gR_m hT, rcv_m hT, pV_m hT, aI_24 hT, sV_24 hT, aI_3 hT, sV_3 hT, aI_18 hT, sV_18 hT, aI_19 hT, sV_19 hT, aI_mZ hT, sV_mZ hT, ui_s, ui_n, ua_s, ua_k, f1, jn, hj, hop]
  /- the reference's blocks -/
  have hBn : mB (ua (ua (opA ar j (nI n) (nI wy) (nI p)) 9 j (-1)) 10 j (-1)) nW bl := by
    have gj : ∀ k m, m ≠ j → ua (ua (opA ar j (nI n) (nI wy) (nI p)) 9 j (-1)) 10 j (-1) k m = ar k m := fun k m hm => by rw [ua_j _ _ _ _ hm, ua_j _ _ _ _ hm, opA_j hm]
    have hbz : ∀ q, cod q → jb q ≠ j → bOf (ua (ua (opA ar j (nI n) (nI wy) (nI p)) 9 j (-1)) 10 j (-1)) q = bOf ar q ∧ zOf (ua (ua (opA ar j (nI n) (nI wy) (nI p)) 9 j (-1)) 10 j (-1)) q = zOf ar q := fun q hc hq => by
      rcases cod_cs hc with ⟨e1, e2⟩ | ⟨e1, e2⟩
      · rw [e1, bOf_j _ e2, bOf_j _ e2, zOf_j _ e2, zOf_j _ e2]; exact ⟨gj _ _ hq, gj _ _ hq⟩
      · rw [e1, bOf_1, bOf_1, zOf_1, zOf_1]; unfold bsz; rw [gj _ _ hq, gj _ _ hq, gj _ _ hq]; exact ⟨rfl, rfl⟩
    refine mB_g hB (fun x hx => ?_) (fun q hq hl => ?_)
    · obtain ⟨c1, c2, _⟩ := hB.1 x hx
      have hjb : jb x.1 ≠ j := fun e => c2 (by rw [e]; exact h0)
      exact ⟨by rw [gj _ _ hjb]; exact c2, hbz _ c1 hjb⟩
    · by_cases hjb : jb q = j
      · refine Or.inl ?_
        rcases cod_cs hq with ⟨a1, a2⟩ | ⟨a1, a2⟩
        · rw [a1, hjb, bOf_j _ hj]; simp [ua]
        · rw [a1, hjb, bOf_1]; simp [ua]
      · rw [gj _ _ hjb] at hl
        exact Or.inr ⟨hl, (hbz q hq hjb).1⟩
  have mtk : ∀ G, _ := fun G => m_takes0 (fu := fu) (T := t3 T nx) (G := G) (nx := nx + 3) (z := c + 6) (j := j) (n := n) (wy := wy) (fi := fi) (ar := opA ar j (nI n) (nI wy) (nI p)) (bl := bl) hT' f0 hj (by rw [opA_4]; decide) opA_5 hn opA_6 hwy hBn hs (by omega)
  have nk : ∀ {q k : Nat}, kd T q = some k → k ≠ 1 → kd (t3 T nx) q ≠ some 1 := fun h1 h2 => by rw [kT _ _ h1]; intro z; injection z with z; omega
  have hjq : j ∉ ql := fun z => by rw [(hQ.2.1 j).mp z] at h0; exact absurd h0 (by decide)
  cases htk : tk nW n (bz wy n) j bl with
  | none =>
    obtain ⟨F4, a1, a2, a3, a4, a5, a6, a7, a8⟩ := u1 htk
    rw [d0, d1] at a8
    have F4n : ∀ {q k : Nat}, kd T q = some k → k ≠ 1 → F4 q = F q := fun h1 h2 => by rw [a7 _ (nk h1 h2), y2 _ (lt h1)]
    have F4b : ∀ q, q < nx → ∀ f, f ≠ 2 → F4 q f = F q f := fun q hq f hf => by rw [a8 q (by omega) (by omega) f hf, y2 q hq]
    have hw : mF F4 (c + 6) fi ar = F4 := mF_keep hF (fun q q1 q2 => by
      have k1 : kd (t3 T nx) q ≠ some 1 := by
        have := mT_n1 hT q1 (by omega)
        simp only [kd, t3_o (show q ≠ nx ∧ q ≠ nx + 1 ∧ q ≠ nx + 2 by omega)]; exact this
      rw [a7 q k1, y2 q (by omega)])
    obtain ⟨v1, v2, mt⟩ := (mtk F4).1 htk
    refine ⟨-6, mkS (t3 T nx) F4 (nx + 3), mw (t3 T nx) F4 (nx + 3) (c + 6) fi (ua (ua (ua (opA ar j (nI n) (nI wy) (nI p)) 9 j v1) 10 j v2) 4 j 0), ?_, ?_, ?_⟩
    · rw [xpre, a1]; simp only [Option.bind_some, bn2_s, zz_0, zz_1, if_true, if_false, ite_true, ite_false, vI_i, vR_n, vR_r, vR_v, reduceCtorEq]
    · rw [show mkS (t3 T nx) F4 (nx + 3) = mw (t3 T nx) F4 (nx + 3) (c + 6) fi ar by show _ = mkS _ _ _; rw [hw], mpre F4, mt]
      have hT := hT'
      simp +decide only [Option.bind_some, bn2_s, zz_0, zz_1, if_true, if_false, ite_true, ite_false, vI_i, vR_n, vR_r, vR_v, reduceCtorEq, gI_m hT, gR_m hT, rcv_m hT, pV_m hT, aI_24 hT, sV_24 hT, aI_3 hT, sV_3 hT, aI_18 hT, sV_18 hT, aI_19 hT, sV_19 hT, aI_mZ hT, sV_mZ hT, ui_s, ui_n, ua_s, ua_k, hj]
    · have gj : ∀ k m, m ≠ j → ua (ua (ua (opA ar j (nI n) (nI wy) (nI p)) 9 j v1) 10 j v2) 4 j 0 k m = ar k m := fun k m hm => by rw [ua_j _ _ _ _ hm, ua_j _ _ _ _ hm, ua_j _ _ _ _ hm, opA_j hm]
      have hM' : MI nW nJ st fi (ua (ua (ua (opA ar j (nI n) (nI wy) (nI p)) 9 j v1) 10 j v2) 4 j 0) bl ql := hM.dead h0 (ua_s _ _ _ _) (fun m hm k _ _ => gj k m hm)
      have r3 : ua (ua (ua (opA ar j (nI n) (nI wy) (nI p)) 9 j v1) 10 j v2) 4 j 0 3 = ar 3 := by funext m; rw [ua_k _ _ _ _ (by decide), ua_k _ _ _ _ (by decide), ua_k _ _ _ _ (by decide), opA_n (by decide)]
      refine ⟨t3 T nx, _, nx + 3, fi, _, ad, da, bl, ql, st, Nat.le_refl _, rfl, INV.mk hT' hM' ?_⟩
      refine hX.blk (j := j) hM kT hf3 (by omega) ?_ (by rw [← emap]; exact a2) hjq (fun _ _ _ _ _ => rfl) (fun _ _ _ => rfl) (fun q hq => F4n hq (by decide)) (fun q K hq hK => F4n hq (by omega)) (F4n k5 (by decide)) (fun i _ => by rw [F4n s11 (by decide)]) (fun i hi hil q hq k hk => ?_) (fun k hk => by rw [gj 4 k (by omega)]; exact hM.2.1 k hk) (fun m hm k _ _ => gj k m hm) (fun m hm t _ => ?_) (fun _ _ _ _ _ _ _ _ _ => by rw [r3]) ?_
      · have ec := F4n kc (by decide)
        exact hST.cg (fun k _ => by rw [ec]) (by rw [ec]; exact s7) (by rw [ec]; exact s8) (F4n hA.1 (by decide)) (fun k hk => F4b _ (by omega) k (by omega)) (by rw [F4n hA.2.1 (by decide), r3]; exact hA.2.2.2.2.2.2.2) rfl
      · have hb := ((hX.2.2.2.1 i).2.1 hil).2.2.2.2 q hq
        exact F4b _ (lt hb.1) k (by omega)
      · rw [ua_k _ _ _ _ (by decide), ua_k _ _ _ _ (by decide), ua_k _ _ _ _ (by decide), opA_n (by decide)]
      · refine ⟨fun z => ?_, fun z => absurd (ua_s _ _ _ _) z, fun z => by rw [ua_s] at z; exact absurd z (by decide)⟩
        rw [F4n s11 (by decide), ua_s, if_pos rfl]
        have := (hX.2.2.2.1 j).1 z
        rw [if_pos h0] at this; exact this
  | some r =>
    obtain ⟨bl2, v1, v2⟩ := r
    obtain ⟨F4, a1, a2, a3, a4, a5, a6, a7, a8⟩ := u2' bl2 v1 v2 htk
    rw [d0] at a3 a4
    rw [d1] at a5 a6
    rw [d0, d1] at a8
    have F4n : ∀ {q k : Nat}, kd T q = some k → k ≠ 1 → F4 q = F q := fun h1 h2 => by rw [a7 _ (nk h1 h2), y2 _ (lt h1)]
    have F4b : ∀ q, q < nx → ∀ f, f ≠ 2 → F4 q f = F q f := fun q hq f hf => by rw [a8 q (by omega) (by omega) f hf, y2 q hq]
    have F4j : F4 nx = F3 nx := a7 nx (by rw [t3_0]; decide)
    have hA4 : xA (t3 T nx) F4 c nW (ar 3) := hA3.fr a7
    obtain ⟨_, hB2, hs2⟩ := (mtk F).2 bl2 v1 v2 htk
    /- what tk says of the lists -/
    obtain ⟨bl1, t1e, t2e⟩ : ∃ bl1, t1 nW n j bl = some (bl1, v1) ∧ t1 nW (bz wy n) (100 + j) bl1 = some (bl2, v2) := by
      unfold tk at htk
      split at htk
      · cases htk
      · rename_i r1 hr1
        split at htk
        · cases htk
        · rename_i r2 hr2
          injection htk with htk
          injection htk with q1 q2
          injection q2 with q2 q3
          exact ⟨r1.1, by rw [hr1, ← q2], by rw [hr2, ← q1, ← q3]⟩
    have oL := t1_mB (ar := ua (ua (opA ar j (nI n) (nI wy) (nI p)) 9 j (-1)) 10 j (-1)) hBn hW (cod_j hj) (by rw [jb_j j hj, ua_k _ _ _ _ (by decide), ua_k _ _ _ _ (by decide), opA_4]; decide) (by rw [zOf_j _ hj, ua_k _ _ _ _ (by decide), ua_k _ _ _ _ (by decide), opA_5]) hs (by rw [bOf_j _ hj]; simp [ua]) t1e
    have oL2 : (v2 = -1 ↔ bz wy n = 0) ∧ (∀ x ∈ bl1, x ∈ bl2) := by
      have hbl1 : mB (ua (ua (opA ar j (nI n) (nI wy) (nI p)) 9 j v1) 10 j (-1)) nW bl1 := by
        have := oL.1
        rw [sB_j _ hj, ua_com _ _ _ _ _ (by decide : (10 : Nat) ≠ 9), ua_ua] at this
        exact this
      have q := t1_mB hbl1 hW (cod_1 hj) (by rw [jb_1, ua_k _ _ _ _ (by decide), ua_k _ _ _ _ (by decide), opA_4]; decide) (by rw [zOf_1]; exact bsz_z (by rw [ua_k _ _ _ _ (by decide), ua_k _ _ _ _ (by decide), opA_5]) (by rw [ua_k _ _ _ _ (by decide), ua_k _ _ _ _ (by decide), opA_6]) hwy) oL.2.1 (by rw [bOf_1]; simp [ua]) t2e
      refine ⟨q.2.2.1, fun x hx => ?_⟩
      by_cases cb : bz wy n = 0
      · rw [q.2.2.2.1 cb]; exact hx
      · obtain ⟨e, _, _, hm⟩ := q.2.2.2.2 cb
        exact (hm x).mpr (Or.inr hx)
    have oL1 : ∀ x ∈ bl, x ∈ bl1 := fun x hx => by
      by_cases cn : n = 0
      · rw [oL.2.2.2.1 cn]; exact hx
      · obtain ⟨e, _, _, hm⟩ := oL.2.2.2.2 cn
        exact (hm x).mpr (Or.inr hx)
    /- the words -/
    obtain ⟨w', x2, m2, wfr'⟩ : ∃ w', fX0_clear fu (mkS (t3 T nx) F4 (nx + 3)) (c + 1) v1 (nI n) = some ((), mkS (t3 T nx) (wF F4 c w') (nx + 3)) ∧ (∀ G, fX10_open_151 fu fu (mw (t3 T nx) G (nx + 3) (c + 6) fi (ua (ua (opA ar j (nI n) (nI wy) (nI p)) 9 j v1) 10 j v2)) (c + 6) (nI n) (nI j) 0 = some (nI j, mw (t3 T nx) G (nx + 3) (c + 6) fi (opE ar j (nI n) (nI wy) (nI p) v1 v2 w'))) ∧ (∀ q, w' q ≠ ar 3 q → ∃ e, (j, e, n) ∈ bl2 ∧ e ≤ q ∧ q < e + n) := by
      have b3 : ua (ua (opA ar j (nI n) (nI wy) (nI p)) 9 j v1) 10 j v2 3 = ar 3 := by funext m; rw [ua_k _ _ _ _ (by decide), ua_k _ _ _ _ (by decide), opA_n (by decide)]
      by_cases cn : n = 0
      · refine ⟨ar 3, ?_, fun G => ?_, fun q hq => absurd rfl hq⟩
        · rw [wF_self hA4.2.2.2.2.2.2.2, cn]; exact x_clr0 _ _ _ (by omega)
        · obtain ⟨m, hm⟩ : ∃ k, fu = k + 1 := ⟨fu - 1, by omega⟩
          have : opE ar j (nI n) (nI wy) (nI p) v1 v2 (ar 3) = ua (ua (opA ar j (nI n) (nI wy) (nI p)) 9 j v1) 10 j v2 := by unfold opE; rw [← b3]; exact aw_self _
          rw [this, hm, cn]
          have : nI 0 ≤ (0 : Int32) := by decide
          simp only [fX10_open_151, this, if_true]
      · obtain ⟨e, q1, q2, q3⟩ := oL.2.2.2.2 cn
        refine ⟨clW (ar 3) e n, ?_, fun G => ?_, fun q hq => ⟨e, oL2.2 _ ((q3 _).mpr (Or.inl rfl)), ?_⟩⟩
        · rw [q1]; exact x_clear hA4 q2 (by omega)
        · have := m_clr (fu := fu) (T := t3 T nx) (G := G) (nx := nx + 3) (z := c + 6) (fi := fi) (ar := ua (ua (opA ar j (nI n) (nI wy) (nI p)) 9 j v1) 10 j v2) hT' hj (e := e) (n := n) (by rw [ua_k _ _ _ _ (by decide), ua_s, q1]) q2 n fu 0 (ar 3) (by omega) (by omega)
          rw [show aw (ua (ua (opA ar j (nI n) (nI wy) (nI p)) 9 j v1) 10 j v2) (ar 3) = ua (ua (opA ar j (nI n) (nI wy) (nI p)) 9 j v1) 10 j v2 by rw [← b3]; exact aw_self _] at this
          exact this
        · simp only [clW] at hq
          split at hq
          · rename_i c1; exact c1
          · exact absurd rfl hq
    generalize hE : opE ar j (nI n) (nI wy) (nI p) v1 v2 w' = ar5 at m2
    have r3 : ar5 3 = w' := by rw [← hE, opE_3]
    have rj : ∀ k m, m ≠ j → k ≠ 3 → ar5 k m = ar k m := fun k m h1 h2 => by rw [← hE, opE_j h1 h2]
    have r4 : ar5 4 j = 1 := by rw [← hE, opE_4]
    have hb5 : mB ar5 nW bl2 := by
      rw [← hE]
      exact mB_congr hB2 (aw_n _ _ (by decide)) (aw_n _ _ (by decide)) (aw_n _ _ (by decide)) (aw_n _ _ (by decide)) (aw_n _ _ (by decide))
    have hbz : bsz ar5 j = nI (bz wy n) := bsz_z (by rw [← hE, opE_5]) (by rw [← hE, opE_6]) hwy
    have hM' : MI nW nJ st fi ar5 bl2 ql := by
      refine ⟨hM.1, fun k hk => by rw [rj 4 k (by omega) (by decide)]; exact hM.2.1 k hk, fun k hk => ?_, hb5, fun q hq hl => ?_, hs2, hQ.keep (by rw [h0]; decide) (fun k hk => rj 4 k hk (by decide)) (by rw [r4]; decide) (fun k hk => rj 7 k hk (by decide)) (fun k hk => rj 11 k hk (by decide))⟩
      · by_cases e : k = j
        · rw [e]
          exact ⟨1, n, wy, p, by rw [r4]; rfl, by omega, by rw [← hE, opE_5], hn, by rw [← hE, opE_6], hwy, by rw [← hE, opE_7], hp⟩
        · rw [rj 4 k e (by decide)] at hk
          obtain ⟨s, n, wy, p, n1, n2, n3, n4, n5, n6, n7, n8⟩ := hM.2.2.1 k hk
          exact ⟨s, n, wy, p, by rw [rj 4 k e (by decide)]; exact n1, n2, by rw [rj 5 k e (by decide)]; exact n3, n4, by rw [rj 6 k e (by decide)]; exact n5, n6, by rw [rj 7 k e (by decide)]; exact n7, n8⟩
      · by_cases hjb : jb q = j
        · rcases cod_cs hq with ⟨b1, b2⟩ | ⟨b1, b2⟩
          · rw [b1, hjb, bOf_j _ hj, zOf_j _ hj, ← hE, opE_9, opE_5]
            refine oL.2.2.1.trans ⟨fun z => by rw [z]; rfl, fun z => ?_⟩
            by_cases cn : n = 0
            · exact cn
            · exact absurd z (nI_ne0 (by omega) (by omega))
          · rw [b1, hjb, bOf_1, zOf_1, hbz, ← hE, opE_10]
            refine oL2.1.trans ⟨fun z => by rw [z]; rfl, fun z => ?_⟩
            by_cases cn : bz wy n = 0
            · exact cn
            · exact absurd z (nI_ne0 (by omega) (by have := bz_le (wy := wy) hn; omega))
        · rw [rj 4 _ hjb (by decide)] at hl
          have hz := hM.2.2.2.2.1 q hq hl
          rcases cod_cs hq with ⟨b1, b2⟩ | ⟨b1, b2⟩
          · rw [b1, bOf_j _ b2, zOf_j _ b2] at hz ⊢; rw [rj 9 _ hjb (by decide), rj 5 _ hjb (by decide)]; exact hz
          · rw [b1, bOf_1, zOf_1] at hz ⊢; unfold bsz at hz ⊢; rw [rj 10 _ hjb (by decide), rj 6 _ hjb (by decide), rj 5 _ hjb (by decide)]; exact hz
    /- the class's world -/
    generalize hF6 : u2 (wF F4 c w') (c + 4) j (.ref nx) = F6
    have F6q : ∀ q, q ≠ c + 4 → q ≠ c + 2 → F6 q = F4 q := fun q h1 h2 => by rw [← hF6, u2_q h1, wF_n h2]
    have F6n : ∀ {q k : Nat}, kd T q = some k → k ≠ 1 → q ≠ c + 4 → q ≠ c + 2 → F6 q = F q := fun h1 h2 h3 h4 => by rw [F6q _ h3 h4]; exact F4n h1 h2
    have F64 : ∀ k, k ≠ j → F6 (c + 4) k = F (c + 4) k := fun k hk => by rw [← hF6, u2_k hk, wF_n (by omega), F4n s11 (by decide)]
    have hw : mF F6 (c + 6) fi ar = F6 := mF_keep hF (fun q q1 q2 => by
      have k1 : kd (t3 T nx) q ≠ some 1 := by
        have := mT_n1 hT q1 (by omega)
        simp only [kd, t3_o (show q ≠ nx ∧ q ≠ nx + 1 ∧ q ≠ nx + 2 by omega)]; exact this
      rw [F6q q (by omega) (by omega), a7 q k1, y2 q (by omega)])
    refine ⟨nI j, mkS (t3 T nx) F6 (nx + 3), mw (t3 T nx) F6 (nx + 3) (c + 6) fi ar5, ?_, ?_, ?_⟩
    · have c0 : F4 c 0 = .ref (c + 1) := by rw [F4n kc (by decide)]; exact s3
      have j2 : F4 nx 2 = .ref (nx + 1) := by rw [F4j]; exact z2
      have c1 : wF F4 c w' c 1 = .ref (c + 4) := by rw [wF_n (by omega), F4n kc (by decide)]; exact s4
      have sr := sR_mkS (F := wF F4 c w') (nx := nx + 3) (kT _ _ s11) (t3_0 (T := T) (nx := nx)) (i := j) (by rw [hST.2.2.2.2.2.2.2.2.2.2.2.1]; exact hjJ) (by rw [hST.2.2.2.2.2.2.2.2.2.2.2.1]; omega)
      rw [hF6] at sr
      rw [xpre, a1]
      simp +decide only [gR_mk (kT _ _ kc), c0, gR_mk (t3_0 (T := T) (nx := nx)), j2, gI_mk (t3_1 (T := T) (nx := nx)), a3, rcv_mk (kT _ _ hA.1), x2, c1, sr, Option.bind_some, bn2_s, zz_0, zz_1, if_true, if_false, ite_true, ite_false, vI_i, vR_n, vR_r, vR_v, reduceCtorEq]
    · rw [show mkS (t3 T nx) F6 (nx + 3) = mw (t3 T nx) F6 (nx + 3) (c + 6) fi ar by show _ = mkS _ _ _; rw [hw], mpre F6, ((mtk F6).2 bl2 v1 v2 htk).1]
      simp +decide only [m2, Option.bind_some, bn2_s, zz_0, zz_1, if_true, if_false, ite_true, ite_false, vI_i, vR_n, vR_r, vR_v, reduceCtorEq]
    · refine ⟨t3 T nx, _, nx + 3, fi, ar5, ad', da', bl2, ql, st, Nat.le_refl _, rfl, INV.mk hT' hM' ?_⟩
      refine hX.blk (j := j) hM kT hf3 (by omega) ?_ ?_ hjq (fun i hi hi24 m hm => d3 _ ?_ ?_ ?_) (fun q k hk => e3 q (lt hk)) (fun q hq => F6n hq (by decide) (fun e => by rw [e, s11] at hq; exact absurd hq (by decide)) (fun e => by rw [e, hA.2.1] at hq; exact absurd hq (by decide))) (fun q K hq hK => F6n hq (by omega) (fun e => by rw [e, s11] at hq; injection hq with hq; omega) (fun e => by rw [e, hA.2.1] at hq; injection hq with hq; omega)) (F6n k5 (by decide) (by omega) (by omega)) F64 (fun i hi hil q hq k hk => ?_) (fun k hk => by rw [rj 4 k (by omega) (by decide)]; exact hM.2.1 k hk) (fun m hm k k1 _ => rj k m hm (by omega)) (fun m hm t _ => by rw [← hE, opE_19]) (fun i hi i2 i6 bf b1 b2 t ht => ?_) ?_
      · have ec := F6n kc (by decide) (by omega) (by omega)
        exact hST.cg (fun k _ => by rw [ec]) (by rw [ec]; exact s7) (by rw [ec]; exact s8) (F6n hA.1 (by decide) (by omega) (by omega)) (fun k hk => by rw [F6q _ (by omega) (by omega)]; exact F4b _ (by omega) k (by omega)) (by rw [← hF6, u2_q (by omega), wF_s, r3]) rfl
      · refine bch_congr a2 (by rw [F6q _ (by omega) (by omega)]) (fun q hq f _ => ?_)
        have hk := bch_kd a2 q hq
        rw [F6q q (fun e => by rw [e, kT _ _ s11] at hk; exact absurd hk (by decide)) (fun e => by rw [e, kT _ _ hA.2.1] at hk; exact absurd hk (by decide))]
      · rcases (show m = 0 ∨ m = 1 ∨ m = 2 ∨ m = 3 by omega) with rfl | rfl | rfl | rfl <;> omega
      · rcases (show m = 0 ∨ m = 1 ∨ m = 2 ∨ m = 3 by omega) with rfl | rfl | rfl | rfl <;> omega
      · rcases (show m = 0 ∨ m = 1 ∨ m = 2 ∨ m = 3 by omega) with rfl | rfl | rfl | rfl <;> omega
      · have hb := ((hX.2.2.2.1 i).2.1 hil).2.2.2.2 q hq
        rw [F6q _ (by omega) (by omega)]
        exact F4b _ (lt hb.1) k (by omega)
      · rw [r3]
        by_cases e : w' (bf + t) = ar 3 (bf + t)
        · exact e
        · obtain ⟨ee, m1, m2', m3⟩ := wfr' _ e
          have := hM'.wd (i := i) m1 (by omega) (by rw [rj 4 i hi (by decide), i2]; decide) (by rw [rj 6 i hi (by decide)]; exact i6) b1 (by rw [rj 10 i hi (by decide)]; exact b2)
          omega
      · refine ⟨fun _ => ?_, fun _ => ?_, fun z => by rw [r4] at z; exact absurd z (by decide)⟩
        · rw [r4, if_neg (by decide), d2, ← hF6, u2_s]
        · refine ⟨by rw [d2]; exact t3_0, by rw [d2]; omega, by rw [d2]; exact e0, fun k hk => ?_, fun q hq => ?_⟩
          · rw [d2, F6q _ (by omega) (by omega), F4j]
            have : k = 0 ∨ k = 1 ∨ k = 2 ∨ k = 3 ∨ k = 4 ∨ k = 5 ∨ k = 6 ∨ k = 7 ∨ k = 8 := by omega
            rcases this with rfl | rfl | rfl | rfl | rfl | rfl | rfl | rfl | rfl
            · exact z0
            · rw [z1]; simp only [jv]; rw [← hE, opE_6]
            · rw [z2]; simp only [jv]; rw [d0]
            · rw [z3]; simp only [jv]; rw [d1]
            · rw [z4]; simp only [jv]; rw [← hE, opE_7]
            · rw [z5]; simp only [jv]; rw [r4]
            · rw [z6]; simp only [jv]; rw [← hE, opE_8]
            · rw [z7]; simp only [jv]; rw [← hE, opE_12]
            · rw [z8]; simp only [jv]; rw [← hE, opE_13]
          · rcases hq with rfl | rfl
            · rw [d0, F6q _ (by omega) (by omega), bOf_j _ hj, zOf_j _ hj]
              exact ⟨t3_1, by omega, e1, by rw [a3, ← hE, opE_9], by rw [a4, ← hE, opE_5]⟩
            · rw [d1, F6q _ (by omega) (by omega), bOf_1, zOf_1, hbz]
              exact ⟨t3_2, by omega, e2, by rw [a5, ← hE, opE_10], a6⟩
theorem op_open (h : INV T F nx c nW nJ st fi ar ad da bl ql) (hfu : 3001 < fu) (x y v : Int32) : ∃ r S1 S2, fX9_open fu (mkS T F nx) c x y v = some (r, S1) ∧ fX10_open fu S1 (c + 6) x y v = some (r, S2) ∧ OUT c nW nJ st S2 := by
  have bad : (x < 0 ∨ 1000 < x ∨ y < 0 ∨ 4 < y ∨ v < 0 ∨ 3 < v) → ∃ r S1 S2, fX9_open fu (mkS T F nx) c x y v = some (r, S1) ∧ fX10_open fu S1 (c + 6) x y v = some (r, S2) ∧ OUT c nW nJ st S2 := by
    intro hb
    refine ⟨-4, mkS T F nx, mkS T F nx, ?_, ?_, OUT.same h (Nat.le_refl _)⟩
    · by_cases a1 : x < 0
      · simp only [fX9_open, x_isCount, a1, Option.bind_some, bn2_s, zz_0, zz_1, if_true, if_false, ite_true, ite_false, vI_i, vR_n, vR_r, vR_v, reduceCtorEq]
      · by_cases a2 : 1000 < x
        · simp only [fX9_open, x_isCount, a1, a2, Option.bind_some, bn2_s, zz_0, zz_1, if_true, if_false, ite_true, ite_false, vI_i, vR_n, vR_r, vR_v, reduceCtorEq]
        · by_cases a3 : y < 0
          · simp +decide only [fX9_open, x_isCount, x_between, a1, a2, a3, Option.bind_some, bn2_s, zz_0, zz_1, if_true, if_false, ite_true, ite_false, vI_i, vR_n, vR_r, vR_v, reduceCtorEq]
          · by_cases a4 : 4 < y
            · simp +decide only [fX9_open, x_isCount, x_between, a1, a2, a3, a4, Option.bind_some, bn2_s, zz_0, zz_1, if_true, if_false, ite_true, ite_false, vI_i, vR_n, vR_r, vR_v, reduceCtorEq]
            · by_cases a5 : v < 0
              · simp +decide only [fX9_open, x_isCount, x_between, x_isPriority, a1, a2, a3, a4, a5, Option.bind_some, bn2_s, zz_0, zz_1, if_true, if_false, ite_true, ite_false, vI_i, vR_n, vR_r, vR_v, reduceCtorEq]
              · have a6 : 3 < v := by
                  rcases hb with z | z | z | z | z | z
                  · exact absurd z a1
                  · exact absurd z a2
                  · exact absurd z a3
                  · exact absurd z a4
                  · exact absurd z a5
                  · exact z
                simp +decide only [fX9_open, x_isCount, x_between, x_isPriority, a1, a2, a3, a4, a5, a6, Option.bind_some, bn2_s, zz_0, zz_1, if_true, if_false, ite_true, ite_false, vI_i, vR_n, vR_r, vR_v, reduceCtorEq]
    · by_cases a1 : x < 0
      · simp only [fX10_open, a1, if_true]
      · by_cases a2 : 1000 < x
        · simp only [fX10_open, a1, a2, if_true, if_false]
        · by_cases a3 : y < 0
          · simp only [fX10_open, a1, a2, a3, if_true, if_false]
          · by_cases a4 : 4 < y
            · simp only [fX10_open, a1, a2, a3, a4, if_true, if_false]
            · by_cases a5 : v < 0
              · simp only [fX10_open, a1, a2, a3, a4, a5, if_true, if_false]
              · have a6 : ¬ v ≤ 3 := by
                  rcases hb with z | z | z | z | z | z
                  · exact absurd z a1
                  · exact absurd z a2
                  · exact absurd z a3
                  · exact absurd z a4
                  · exact absurd z a5
                  · exact i32_nle.mpr z
                simp only [fX10_open, a1, a2, a3, a4, a5, a6, if_false]
  by_cases a1 : x < 0
  · exact bad (Or.inl a1)
  · by_cases a2 : 1000 < x
    · exact bad (Or.inr (Or.inl a2))
    · by_cases a3 : y < 0
      · exact bad (Or.inr (Or.inr (Or.inl a3)))
      · by_cases a4 : 4 < y
        · exact bad (Or.inr (Or.inr (Or.inr (Or.inl a4))))
        · by_cases a5 : v < 0
          · exact bad (Or.inr (Or.inr (Or.inr (Or.inr (Or.inl a5)))))
          · by_cases a6 : 3 < v
            · exact bad (Or.inr (Or.inr (Or.inr (Or.inr (Or.inr a6)))))
            · obtain ⟨n, hn, rfl⟩ := nI_of2 (n := 1000) rfl a1 (i32_nlt.mp a2)
              obtain ⟨wy, hwy, rfl⟩ := nI_of2 (n := 4) rfl a3 (i32_nlt.mp a4)
              obtain ⟨p, hp, rfl⟩ := nI_of2 (n := 3) rfl a5 (i32_nlt.mp a6)
              rcases lf_cs ar nJ with hall | ⟨j, j1, j2, j3⟩
              · obtain ⟨hT, hF, hM, hX⟩ := id h
                have hJ := hM.1.2.2.2.1
                have xl := (x_lf (fu := fu) hX hJ nJ fu 0 (by omega) (by omega)).1 (fun k _ hk => hall k hk)
                have xl' : fX9_leastFreeNumber fu (mkS T F nx) c = some (-1, mkS T F nx) := xl
                have ml := (m_lf (fu := fu) (G := F) (nx := nx) (ar := ar) (x1 := nI n) (x2 := nI wy) (x3 := nI p) hT hM.1.2.1 hJ nJ fu 0 (by omega) (by omega)).1 (fun k _ hk => hall k hk)
                have ml' : fX10_open_35 fu fu (mw T F nx (c + 6) fi ar) (c + 6) (nI n) (nI wy) (nI p) 0 = _ := ml
                have p1 : nI p ≤ (3 : Int32) := i32_nlt.mp a6
                refine ⟨-5, mkS T F nx, mkS T F nx, ?_, ?_, OUT.same h (Nat.le_refl _)⟩
                · simp +decide only [fX9_open, x_isCount, x_between, x_isPriority, a1, a2, a3, a4, a5, a6, rcv_mk hX.1.2.1, xl', Option.bind_some, bn2_s, zz_0, zz_1, if_true, if_false, ite_true, ite_false, vI_i, vR_n, vR_r, vR_v, reduceCtorEq]
                · rw [h.w]
                  simp only [fX10_open, a1, a2, a3, a4, a5, p1, if_true, if_false, ml']
              · exact open_at h hfu hn hwy hp j1 j2 j3
end OP
