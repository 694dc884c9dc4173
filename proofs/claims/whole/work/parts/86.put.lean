section PC
variable {T T' : Nat → Option (Nat × Nat)} {F F' F1 : Nat → Nat → Value} {nx nx' c nW nJ st st' i j sj fu p : Nat} {fi fi' : Nat → Int32} {ar ar' : Nat → Nat → Int32} {ad ad' da da' : Nat → Nat} {bl bl' : bL} {ql ql' l : List Nat} {w w' : Nat → Int32}
theorem x_between (S : hS) (x a b : Int32) : fX9_isBetween fu S x a b = some (if x < a then 0 else if b < x then 0 else 1, S) := by
  unfold fX9_isBetween
  by_cases c1 : x < a
  · simp only [c1, Option.bind_some, bn2_s, zz_0, zz_1, if_true, if_false, ite_true, ite_false, vI_i, vR_n, vR_r, vR_v, reduceCtorEq]
  · by_cases c2 : b < x <;> simp only [c1, c2, Option.bind_some, bn2_s, zz_0, zz_1, if_true, if_false, ite_true, ite_false, vI_i, vR_n, vR_r, vR_v, reduceCtorEq]
theorem x_isCount (S : hS) (x : Int32) : fX9_isCount fu S x = some (if x < 0 then 0 else if 1000 < x then 0 else 1, S) := by
  simp only [fX9_isCount, x_between, Option.bind_some, bn2_s, zz_0, zz_1, if_true, if_false, ite_true, ite_false, vI_i, vR_n, vR_r, vR_v, reduceCtorEq]
  split
  · rfl
  · split <;> rfl
theorem x_isPriority (S : hS) (x : Int32) : fX9_isPriority fu S x = some (if x < 0 then 0 else if 3 < x then 0 else 1, S) := by
  simp only [fX9_isPriority, x_between, Option.bind_some, bn2_s, zz_0, zz_1, if_true, if_false, ite_true, ite_false, vI_i, vR_n, vR_r, vR_v, reduceCtorEq]
  split
  · rfl
  · split <;> rfl
theorem mT_n4 {z q : Nat} (hT : mT T z nW) (h1 : z ≤ q) (h2 : q < z + 15) : kd T q ≠ some 4 := by
  by_cases e : q = z
  · rw [e, mT_z hT]; decide
  · have : ∃ k, mo k ≠ 0 ∧ q = z + mo k := by
      have : q = z + 1 ∨ q = z + 2 ∨ q = z + 3 ∨ q = z + 4 ∨ q = z + 5 ∨ q = z + 6 ∨ q = z + 7 ∨ q = z + 8 ∨ q = z + 9 ∨ q = z + 10 ∨ q = z + 11 ∨ q = z + 12 ∨ q = z + 13 ∨ q = z + 14 := by omega
      rcases this with h | h | h | h | h | h | h | h | h | h | h | h | h | h
      · exact ⟨4, by decide, h⟩
      · exact ⟨5, by decide, h⟩
      · exact ⟨6, by decide, h⟩
      · exact ⟨7, by decide, h⟩
      · exact ⟨8, by decide, h⟩
      · exact ⟨9, by decide, h⟩
      · exact ⟨10, by decide, h⟩
      · exact ⟨11, by decide, h⟩
      · exact ⟨12, by decide, h⟩
      · exact ⟨13, by decide, h⟩
      · exact ⟨14, by decide, h⟩
      · exact ⟨18, by decide, h⟩
      · exact ⟨19, by decide, h⟩
      · exact ⟨3, by decide, h⟩
    obtain ⟨k, hk, rfl⟩ := this
    rw [mT_k hT hk]
    unfold mkind
    split <;> decide
theorem mT_ex (hT : mT T (c + 6) nW) (h : ∀ q k, T q = some k → T' q = some k) : mT T' (c + 6) nW := ⟨h _ _ hT.1, hT.2.1, fun k hk => h _ _ (hT.2.2 k hk)⟩
theorem MI.upj (h : MI nW nJ st fi ar bl ql) (hf : MF nW nJ st' fi') (hjl : ar 4 j ≠ 0) (h4 : ∀ k, k ≠ j → ar' 4 k = ar 4 k) (hj : JN ar' j) (hj4 : ar' 4 j ≠ 0) (h7 : ∀ k, k ≠ j → ar' 7 k = ar 7 k) (h5 : ar' 5 = ar 5) (h6 : ar' 6 = ar 6) (h9 : ar' 9 = ar 9) (h10 : ar' 10 = ar 10) (hQ : QL ar' st' ql') : MI nW nJ st' fi' ar' bl ql' := by
  have hlt := h.lt hjl
  obtain ⟨_, hs0, hN, hB, hz, hs, _⟩ := h
  have h4' : ∀ k, ar' 4 k ≠ 0 ↔ ar 4 k ≠ 0 := fun k => by
    by_cases e : k = j
    · subst e; exact ⟨fun _ => hjl, fun _ => hj4⟩
    · rw [h4 k e]
  refine ⟨hf, fun k hk => ?_, fun k hk => ?_, MI.mbc hB h4' h5 h6 h9 h10, hz.cg (fun k hk => (h4' k).mp hk) h5 h6 h9 h10, hs, hQ⟩
  · rw [h4 k (by omega)]; exact hs0 k hk
  · by_cases e : k = j
    · rw [e]; exact hj
    · obtain ⟨s, n, wy, p, n1, n2, n3, n4, n5, n6, n7, n8⟩ := hN k ((h4' k).mp hk)
      exact ⟨s, n, wy, p, by rw [h4 k e]; exact n1, n2, by rw [h5]; exact n3, n4, by rw [h6]; exact n5, n6, by rw [h7 k e]; exact n7, n8⟩
theorem QL.cg (h : QL ar st ql) (h4 : ar' 4 = ar 4) (h7 : ar' 7 = ar 7) (h11 : ar' 11 = ar 11) : QL ar' st ql := by
  obtain ⟨h1, h2, h3, h5⟩ := h
  exact ⟨h1, fun k => by rw [h4]; exact h2 k, aft_c (fun k _ => by rw [h7]) (fun k _ => by rw [h11]) ql (fun _ z => z) h3, fun k hk => by rw [h4] at hk; rw [h11]; exact h5 k hk⟩
theorem MI.cg (h : MI nW nJ st fi ar bl ql) (hf : MF nW nJ st fi') (ha : ∀ k, 4 ≤ k → k ≤ 13 → ar' k = ar k) : MI nW nJ st fi' ar' bl ql := by
  obtain ⟨_, hs0, hN, hB, hz, hs, hQ⟩ := h
  have a4 := ha 4 (by omega) (by omega)
  have a5 := ha 5 (by omega) (by omega)
  have a6 := ha 6 (by omega) (by omega)
  have a7 := ha 7 (by omega) (by omega)
  have a9 := ha 9 (by omega) (by omega)
  have a10 := ha 10 (by omega) (by omega)
  refine ⟨hf, fun k hk => by rw [a4]; exact hs0 k hk, fun k hk => ?_, mB_congr hB a4 a5 a6 a9 a10, hz.cg (fun k hk => by rw [a4] at hk; exact hk) a5 a6 a9 a10, hs, hQ.cg a4 a7 (ha 11 (by omega) (by omega))⟩
  rw [a4] at hk
  obtain ⟨s, n, wy, p, n1, n2, n3, n4, n5, n6, n7, n8⟩ := hN k hk
  exact ⟨s, n, wy, p, by rw [a4]; exact n1, n2, by rw [a5]; exact n3, n4, by rw [a6]; exact n5, n6, by rw [a7]; exact n7, n8⟩
theorem jfr_F (h : jfr F F1 c p l) (hl : ∀ q ∈ l, kd T q = some 4) (hp : kd T p = some 4) {q k : Nat} (h5 : q ≠ c + 5) (hk : k ≠ 10 ∨ kd T q ≠ some 4) : F1 q k = F q k := by
  refine h q k ?_ (fun z => h5 z.1) ?_
  · rintro ⟨rfl, rfl⟩
    rcases hk with z | z
    · exact z rfl
    · exact z hp
  · rintro ⟨z1, rfl⟩
    rcases hk with z | z
    · exact z rfl
    · exact z (hl q z1)
/-- words of two blocks -/
theorem MI.wd (hM : MI nW nJ st fi ar bl ql) {f n bf q : Nat} (hx : (q, f, n) ∈ bl) (hq : q ≠ 100 + i) (hl : ar 4 i ≠ 0) (h6 : ar 6 i = 4) (hb : bf ≤ 3000) (h10 : ar 10 i = nI bf) : f + n ≤ bf ∨ bf + 24 ≤ f := by
  obtain ⟨s, m, wy, p, n1, n2, n3, n4, n5, n6, n7, n8⟩ := hM.2.2.1 i hl
  have hw : wy = 4 := (nI_eq (a := wy) (b := 4) (by omega) (by omega)).mp (by rw [← n5, h6]; rfl)
  subst hw
  obtain ⟨bf2, e1, e2, e3⟩ := hM.buf hl n3 n5 n6 n4 (by simp [bz])
  have hW := hM.1.2.2.2.2.2.1
  have hb2 : bf2 < 2 ^ 31 := by omega
  have hb1 : bf < 2 ^ 31 := by omega
  have : bf = bf2 := (nI_eq hb1 hb2).mp (by rw [← h10, e1])
  subst this
  have h24 : bz 4 m = 24 := by simp [bz]
  rw [h24] at e2 e3
  rcases srt_disj hM.2.2.2.2.2.1 _ hx _ e3 with z | z | z
  · injection z with z; exact absurd z hq
  · exact Or.inl z
  · exact Or.inr z
theorem op_put (h : INV T F nx c nW nJ st fi ar ad da bl ql) (x y v : Int32) : ∃ r S1 S2, fX9_put fu (mkS T F nx) c x y v = some (r, S1) ∧ fX10_put fu S1 (c + 6) x y v = some (r, S2) ∧ OUT c nW nJ st S2 := by
  obtain ⟨hT, hF, hM, hX⟩ := id h
  have kc := hX.1.2.1
  have f1 := hM.1.2.1
  have hJ := hM.1.2.2.2.1
  have hA := hX.1.1
  have hQ := hM.2.2.2.2.2.2
  rcases jcase nJ ar x with hb | ⟨j, hj, rfl, hl⟩
  · refine ⟨-1, mkS T F nx, mkS T F nx, ?_, ?_, OUT.same h (Nat.le_refl _)⟩
    · simp only [fX9_put, rcv_mk kc, x_find0 hX hJ hb, Option.bind_some, bn2_s, zz_0, zz_1, if_true, if_false, ite_true, ite_false, vI_i, vR_n, vR_r, vR_v, reduceCtorEq]
    · rw [h.w]
      simp only [fX10_put, rcv_m hT, m_isJob0 hT f1 hJ hb, Option.bind_some, bn2_s, zz_0, zz_1, if_true, if_false, ite_true, ite_false, vI_i, vR_n, vR_r, vR_v, reduceCtorEq]
  · have hj' : j < 24 := by omega
    have hL := (hX.2.2.2.1 j).2.1 hl
    obtain ⟨s, n, wy, p, n1, n2, n3, n4, n5, n6, n7, n8⟩ := hM.2.2.1 j hl
    have e5 : F (ad (200 + j)) 5 = .int (ar 4 j) := hL.2.2.2.1 5 (by omega)
    have hh := x_hasNumber (fu := fu) hX hl hj' n3 (x := y)
    by_cases cs : ar 4 j = 1
    · by_cases c1 : y < 0
      · rw [if_pos c1] at hh
        refine ⟨-2, mkS T F nx, mkS T F nx, ?_, ?_, OUT.same h (Nat.le_refl _)⟩
        · simp only [fX9_put, rcv_mk kc, x_find1 hX hJ hj hl, gI_mk hL.1, e5, cs, rcv_mk hL.1, hh, Option.bind_some, bn2_s, zz_0, zz_1, if_true, if_false, ite_true, ite_false, vI_i, vR_n, vR_r, vR_v, reduceCtorEq]
        · rw [h.w]
          simp +decide only [fX10_put, Option.bind_some, bn2_s, zz_0, zz_1, if_true, if_false, ite_true, ite_false, vI_i, vR_n, vR_r, vR_v, reduceCtorEq, gI_m hT, gR_m hT, rcv_m hT, pV_m hT, aI_24 hT, sV_24 hT, aI_3 hT, sV_3 hT, aI_18 hT, sV_18 hT, aI_19 hT, sV_19 hT, aI_mZ hT, sV_mZ hT, ui_s, ui_n, ua_s, ua_k, m_isJob1 hT f1 hJ hj hl, hj', cs, c1]
      · rw [if_neg c1] at hh
        obtain ⟨i, i1, rfl⟩ := nI_of c1
        by_cases c2 : n ≤ i
        · have c3 : nI n ≤ nI i := nI_le c2 i1
          have c4 : ¬ nI i < nI n := nI_nlt c2 i1
          rw [if_pos c3] at hh
          refine ⟨-2, mkS T F nx, mkS T F nx, ?_, ?_, OUT.same h (Nat.le_refl _)⟩
          · simp only [fX9_put, rcv_mk kc, x_find1 hX hJ hj hl, gI_mk hL.1, e5, cs, rcv_mk hL.1, hh, Option.bind_some, bn2_s, zz_0, zz_1, if_true, if_false, ite_true, ite_false, vI_i, vR_n, vR_r, vR_v, reduceCtorEq]
          · rw [h.w]
            simp +decide only [fX10_put, Option.bind_some, bn2_s, zz_0, zz_1, if_true, if_false, ite_true, ite_false, vI_i, vR_n, vR_r, vR_v, reduceCtorEq, gI_m hT, gR_m hT, rcv_m hT, pV_m hT, aI_24 hT, sV_24 hT, aI_3 hT, sV_3 hT, aI_18 hT, sV_18 hT, aI_19 hT, sV_19 hT, aI_mZ hT, sV_mZ hT, ui_s, ui_n, ua_s, ua_k, m_isJob1 hT f1 hJ hj hl, hj', cs, c1, n3, c4]
        · have c3 : ¬ nI n ≤ nI i := nI_ge (by omega) (by omega)
          have c4 : nI i < nI n := nI_lt (by omega) (by omega)
          rw [if_neg c3] at hh
          obtain ⟨f, q1, q2, q3⟩ := hM.cell hl n3 n4 (by omega)
          obtain ⟨b1, b2, b3, b4, b5⟩ := hL.2.2.2.2 j (Or.inl rfl)
          rw [bOf_j _ hj', q1] at b4
          have e2 : F (ad (200 + j)) 2 = .ref (ad j) := hL.2.2.2.1 2 (by omega)
          have wr := x_write (fu := fu) (nx := nx) hA (i := f + i) (by omega) v
          have hi : f + i < nW := by omega
          have hw : mF (wF F c (upd (ar 3) (f + i) v)) (c + 6) fi ar = wF F c (upd (ar 3) (f + i) v) := mF_keep hF (fun q a1 a2 => wF_n (by omega))
          refine ⟨0, mkS T (wF F c (upd (ar 3) (f + i) v)) nx, mw T (wF F c (upd (ar 3) (f + i) v)) nx (c + 6) fi (aw ar (upd (ar 3) (f + i) v)), ?_, ?_, ?_⟩
          · simp +decide only [fX9_put, rcv_mk kc, x_find1 hX hJ hj hl, gI_mk hL.1, e5, cs, rcv_mk hL.1, hh, gR_mk kc, hX.1.2.2.1, gR_mk hL.1, e2, gI_mk b1, b4, rcv_mk hA.1, nI_add, wr, Option.bind_some, bn2_s, zz_0, zz_1, if_true, if_false, ite_true, ite_false, vI_i, vR_n, vR_r, vR_v, reduceCtorEq]
          · rw [show mkS T (wF F c (upd (ar 3) (f + i) v)) nx = mw T (wF F c (upd (ar 3) (f + i) v)) nx (c + 6) fi ar by show _ = mkS T _ nx; rw [hw]]
            simp +decide only [fX10_put, Option.bind_some, bn2_s, zz_0, zz_1, if_true, if_false, ite_true, ite_false, vI_i, vR_n, vR_r, vR_v, reduceCtorEq, gI_m hT, gR_m hT, rcv_m hT, pV_m hT, aI_24 hT, sV_24 hT, aI_3 hT, sV_3 hT, aI_18 hT, sV_18 hT, aI_19 hT, sV_19 hT, aI_mZ hT, sV_mZ hT, ui_s, ui_n, ua_s, ua_k, m_isJob1 hT f1 hJ hj hl, hj', cs, c1, n3, c4, q1, nI_add, hi, ua_3]
          · have hM' : MI nW nJ st fi (aw ar (upd (ar 3) (f + i) v)) bl ql := hM.cg hM.1 (fun k k1 _ => aw_n _ _ (by omega))
            have k5 := hX.1.2.2.2.2.2.2.2.2.2.2.2.2
            refine ⟨T, _, nx, fi, _, ad, da, bl, ql, st, Nat.le_refl _, rfl, INV.mk hT hM' ?_⟩
            have wn : ∀ {q : Nat}, q ≠ c + 2 → wF F c (upd (ar 3) (f + i) v) q = F q := fun z => wF_n z
            refine hX.line (sj := c) (j := j) hM (fun _ _ z => z) hX.2.2.2.2.1 hX.2.2.2.2.2 ?_ ?_ (fun _ _ => rfl) (fun _ _ => rfl) (fun _ _ _ => rfl) (fun k _ hk => ?_) (fun q hq => ?_) (fun q k _ q2 _ _ _ _ => by rw [wn q2]) (fun k hk => by have := hM.qlt k hk; omega) hl (fun k hk => ?_) (fun k _ m m1 _ => by rw [aw_n _ _ (by omega)]) (fun k _ t _ => by rw [aw_n _ _ (by omega)]) (fun k hk k2 k6 bf b1 b2 t ht => ?_) ?_
            · exact hX.1.cg (fun k _ => by rw [wn (by omega)]) (by rw [wn (by omega)]; exact hX.1.2.2.2.2.2.2.1) (by rw [wn (by omega)]; exact hX.1.2.2.2.2.2.2.2.1) (wn (by omega)) (fun k _ => by rw [wn (by omega)]) (by rw [wF_s, aw_3]) rfl
            · rw [wn (by omega)]
              exact jch_congr hX.2.2.1 (fun q hq => by rw [wn (by have := (hX.qj hQ q hq).2; omega)])
            · obtain ⟨K, gi, o, _, _, _, g, _⟩ := (hX.2.2.2.1 k).2.2 hk
              omega
            · rintro rfl
              rw [kc] at hq
              simp at hq
            · rw [aw_n _ _ (by omega)]; exact hM.2.1 k hk
            · rw [aw_3]
              have := hM.wd (i := k) q3 (by omega) (by rw [k2]; decide) k6 b1 b2
              simp only [upd]
              rw [if_neg (by omega)]
            · refine ⟨fun z => ?_, fun z => ?_, fun z => ?_⟩
              · rw [wn (by omega), aw_n _ _ (by omega)]; exact (hX.2.2.2.1 j).1 z
              · exact hL.cg hj' (fun _ _ z => z) (fun k k1 _ => by rw [aw_n _ _ (by omega)]) (fun _ _ => rfl) (fun _ _ => rfl) (fun k _ => by rw [wn (by have := hL.2.1; omega)]) (fun q hq k _ => by rw [wn (by have := (hL.2.2.2.2 q hq).2.1; omega)])
              · rw [aw_n _ _ (by omega), cs] at z; exact absurd z (by decide)
    · refine ⟨-3, mkS T F nx, mkS T F nx, ?_, ?_, OUT.same h (Nat.le_refl _)⟩
      · simp only [fX9_put, rcv_mk kc, x_find1 hX hJ hj hl, gI_mk hL.1, e5, cs, Option.bind_some, bn2_s, zz_0, zz_1, if_true, if_false, ite_true, ite_false, vI_i, vR_n, vR_r, vR_v, reduceCtorEq]
      · rw [h.w]
        simp +decide only [fX10_put, Option.bind_some, bn2_s, zz_0, zz_1, if_true, if_false, ite_true, ite_false, vI_i, vR_n, vR_r, vR_v, reduceCtorEq, gI_m hT, gR_m hT, rcv_m hT, pV_m hT, aI_24 hT, sV_24 hT, aI_3 hT, sV_3 hT, aI_18 hT, sV_18 hT, aI_19 hT, sV_19 hT, aI_mZ hT, sV_mZ hT, ui_s, ui_n, ua_s, ua_k, m_isJob1 hT f1 hJ hj hl, hj', cs]
end PC
