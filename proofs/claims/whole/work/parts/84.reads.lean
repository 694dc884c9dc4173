section RD
variable {T : Nat → Option (Nat × Nat)} {F : Nat → Nat → Value} {nx c nW nJ st i j fu : Nat} {fi : Nat → Int32} {ar : Nat → Nat → Int32} {ad da : Nat → Nat} {bl : bL} {ql : List Nat}
theorem MI.cell (h : MI nW nJ st fi ar bl ql) (hl : ar 4 j ≠ 0) {n : Nat} (h5 : ar 5 j = nI n) (hn : n ≤ 1000) (h0 : 0 < n) : ∃ f, ar 9 j = nI f ∧ f + n ≤ nW ∧ (j, f, n) ∈ bl := by
  have hj := h.lt24 hl
  obtain ⟨hF, hs0, hN, hB, hz, hs, hQ⟩ := h
  have e : ¬ bOf ar j = -1 := fun z => by
    have := (hz j (cod_j hj) (by rw [jb_j j hj]; exact hl)).mp z
    rw [zOf_j _ hj, h5] at this
    exact nI_ne0 h0 (by omega) this
  rcases hB.2 j (cod_j hj) (by rw [jb_j j hj]; exact hl) with z | ⟨f, s, z⟩
  · exact absurd z e
  · obtain ⟨a1, a2, a3, a4, a5, a6⟩ := hB.1 _ z
    simp only at a3 a4 a5 a6
    rw [zOf_j _ hj, h5] at a4
    rw [bOf_j _ hj] at a3
    have := (nI_eq (a := n) (b := s) (by omega) (by have := hF.2.2.2.2.2.1; omega)).mp a4
    subst this
    exact ⟨f, a3, a5, z⟩
theorem MI.buf (h : MI nW nJ st fi ar bl ql) (hl : ar 4 j ≠ 0) {n wy : Nat} (h5 : ar 5 j = nI n) (h6 : ar 6 j = nI wy) (hwy : wy ≤ 4) (hn : n ≤ 1000) (h0 : 0 < bz wy n) : ∃ f, ar 10 j = nI f ∧ f + bz wy n ≤ nW ∧ (100 + j, f, bz wy n) ∈ bl := by
  have hj := h.lt24 hl
  obtain ⟨hF, hs0, hN, hB, hz, hs, hQ⟩ := h
  have hb := bsz_z h5 h6 hwy
  have hb2 := bz_le (wy := wy) hn
  have e : ¬ bOf ar (100 + j) = -1 := fun z => by
    have := (hz (100 + j) (cod_1 hj) (by rw [jb_1]; exact hl)).mp z
    rw [zOf_1, hb] at this
    exact nI_ne0 h0 (by omega) this
  rcases hB.2 (100 + j) (cod_1 hj) (by rw [jb_1]; exact hl) with z | ⟨f, s, z⟩
  · exact absurd z e
  · obtain ⟨a1, a2, a3, a4, a5, a6⟩ := hB.1 _ z
    simp only at a3 a4 a5 a6
    rw [zOf_1, hb] at a4
    rw [bOf_1] at a3
    have := (nI_eq (a := bz wy n) (b := s) (by omega) (by have := hF.2.2.2.2.2.1; omega)).mp a4
    rw [← this] at a5 z
    exact ⟨f, a3, a5, z⟩
theorem x_find0 (h : XI T F nx c nW nJ fi ar ad da bl ql) (hJ : nJ ≤ 24) {x : Int32} (hb : badJ nJ ar x) : fX9_find fu (mkS T F nx) c x = some (none, mkS T F nx) := by
  obtain ⟨⟨hA, s2, s3, s4, s5, s6, s7, s8, s9, s10, s11, s12, s13⟩, h2, h3, h4, h5, h6⟩ := h
  rcases hb with hb | ⟨j, h1, rfl, hb⟩
  · simp only [fX9_find, hb, Option.bind_some, bn2_s, zz_0, zz_1, if_true, if_false, ite_true, ite_false, vI_i, vR_n, vR_r, vR_v, reduceCtorEq]
  · have h0 := nI_pos h1
    have hl := aL_mk (F := F) (nx := nx) s11
    rcases hb with hb | ⟨hb, h3⟩
    · have e1 : nI nJ ≤ nI j := nI_le hb h1
      simp only [fX9_find, h0, gR_mk s2, s4, hl, s12, e1, Option.bind_some, bn2_s, zz_0, zz_1, if_true, if_false, ite_true, ite_false, vI_i, vR_n, vR_r, vR_v, reduceCtorEq]
    · have e1 : ¬ nI nJ ≤ nI j := nI_ge hb (by omega)
      have e2 := aR_mk (F := F) (nx := nx) s11 (i := j) (by omega) (by omega)
      have e3 := (h4 j).1 hb
      rw [if_pos h3] at e3
      simp only [fX9_find, h0, gR_mk s2, s4, hl, s12, e1, e2, e3, Option.bind_some, bn2_s, zz_0, zz_1, if_true, if_false, ite_true, ite_false, vI_i, vR_n, vR_r, vR_v, reduceCtorEq]
theorem x_find1 (h : XI T F nx c nW nJ fi ar ad da bl ql) (hJ : nJ ≤ 24) (hj : j < nJ) (hl : ar 4 j ≠ 0) : fX9_find fu (mkS T F nx) c (nI j) = some (some (ad (200 + j)), mkS T F nx) := by
  obtain ⟨⟨hA, s2, s3, s4, s5, s6, s7, s8, s9, s10, s11, s12, s13⟩, h2, h3, h4, h5, h6⟩ := h
  have h0 := nI_pos (n := j) (by omega)
  have hln := aL_mk (F := F) (nx := nx) s11
  have e1 : ¬ nI nJ ≤ nI j := nI_ge hj (by omega)
  have e2 := aR_mk (F := F) (nx := nx) s11 (i := j) (by omega) (by omega)
  have e3 := (h4 j).1 hj
  rw [if_neg hl] at e3
  simp only [fX9_find, h0, gR_mk s2, s4, hln, s12, e1, e2, e3, Option.bind_some, bn2_s, zz_0, zz_1, if_true, if_false, ite_true, ite_false, vI_i, vR_n, vR_r, vR_v, reduceCtorEq]
theorem INV.w (h : INV T F nx c nW nJ st fi ar ad da bl ql) : mkS T F nx = mw T F nx (c + 6) fi ar := by
  show mkS T F nx = mkS T (mF F (c + 6) fi ar) nx
  rw [h.2.1]
theorem x_hasNumber (h : XI T F nx c nW nJ fi ar ad da bl ql) (hl : ar 4 j ≠ 0) (hj : j < 24) {n : Nat} (h5 : ar 5 j = nI n) {x : Int32} : fX4_hasNumber fu (mkS T F nx) (ad (200 + j)) x = some (if x < 0 then 0 else if nI n ≤ x then 0 else 1, mkS T F nx) := by
  have hL := (h.2.2.2.1 j).2.1 hl
  have f2 : F (ad (200 + j)) 2 = .ref (ad j) := hL.2.2.2.1 2 (by omega)
  obtain ⟨b1, b2, b3, b4, b5⟩ := hL.2.2.2.2 j (Or.inl rfl)
  rw [zOf_j _ hj, h5] at b5
  by_cases c1 : x < 0
  · simp only [fX4_hasNumber, c1, Option.bind_some, bn2_s, zz_0, zz_1, if_true, if_false, ite_true, ite_false, vI_i, vR_n, vR_r, vR_v, reduceCtorEq]
  · simp only [fX4_hasNumber, c1, gR_mk hL.1, f2, gI_mk b1, b5, Option.bind_some, bn2_s, zz_0, zz_1, if_true, if_false, ite_true, ite_false, vI_i, vR_n, vR_r, vR_v, reduceCtorEq]
    split <;> simp only [Option.bind_some, bn2_s, zz_0, zz_1, if_true, if_false, ite_true, ite_false, vI_i, vR_n, vR_r, vR_v, reduceCtorEq]
theorem op_state (h : INV T F nx c nW nJ st fi ar ad da bl ql) (x : Int32) : ∃ r, fX9_state fu (mkS T F nx) c x = some (r, mkS T F nx) ∧ fX10_state fu (mkS T F nx) (c + 6) x = some (r, mkS T F nx) := by
  obtain ⟨hT, hF, hM, hX⟩ := id h
  have kc := hX.1.2.1
  have f1 := hM.1.2.1
  have hJ := hM.1.2.2.2.1
  rcases jcase nJ ar x with hb | ⟨j, hj, rfl, hl⟩
  · refine ⟨-1, ?_, ?_⟩
    · simp only [fX9_state, rcv_mk kc, x_find0 hX hJ hb, Option.bind_some, bn2_s, zz_0, zz_1, if_true, if_false, ite_true, ite_false, vI_i, vR_n, vR_r, vR_v, reduceCtorEq]
    · rw [h.w]
      simp only [fX10_state, rcv_m hT, m_isJob0 hT f1 hJ hb, Option.bind_some, bn2_s, zz_0, zz_1, if_true, if_false, ite_true, ite_false, vI_i, vR_n, vR_r, vR_v, reduceCtorEq]
  · have hL := (hX.2.2.2.1 j).2.1 hl
    have e5 : F (ad (200 + j)) 5 = .int (ar 4 j) := hL.2.2.2.1 5 (by omega)
    refine ⟨ar 4 j, ?_, ?_⟩
    · simp only [fX9_state, rcv_mk kc, x_find1 hX hJ hj hl, gI_mk hL.1, e5, Option.bind_some, bn2_s, zz_0, zz_1, if_true, if_false, ite_true, ite_false, vI_i, vR_n, vR_r, vR_v, reduceCtorEq]
    · rw [h.w]
      have hj' : j < 24 := by omega
      simp +decide only [fX10_state, Option.bind_some, bn2_s, zz_0, zz_1, if_true, if_false, ite_true, ite_false, vI_i, vR_n, vR_r, vR_v, reduceCtorEq, gI_m hT, gR_m hT, rcv_m hT, pV_m hT, aI_24 hT, sV_24 hT, aI_3 hT, sV_3 hT, aI_18 hT, sV_18 hT, aI_19 hT, sV_19 hT, aI_mZ hT, sV_mZ hT, ui_s, ui_n, ua_s, ua_k, m_isJob1 hT f1 hJ hj hl, hj']
theorem op_get (h : INV T F nx c nW nJ st fi ar ad da bl ql) (x y : Int32) : ∃ r, fX9_get fu (mkS T F nx) c x y = some (r, mkS T F nx) ∧ fX10_get fu (mkS T F nx) (c + 6) x y = some (r, mkS T F nx) := by
  obtain ⟨hT, hF, hM, hX⟩ := id h
  have kc := hX.1.2.1
  have f1 := hM.1.2.1
  have hJ := hM.1.2.2.2.1
  have hA := hX.1.1
  rcases jcase nJ ar x with hb | ⟨j, hj, rfl, hl⟩
  · refine ⟨0, ?_, ?_⟩
    · simp only [fX9_get, rcv_mk kc, x_find0 hX hJ hb, Option.bind_some, bn2_s, zz_0, zz_1, if_true, if_false, ite_true, ite_false, vI_i, vR_n, vR_r, vR_v, reduceCtorEq]
    · rw [h.w]
      simp only [fX10_get, rcv_m hT, m_isJob0 hT f1 hJ hb, Option.bind_some, bn2_s, zz_0, zz_1, if_true, if_false, ite_true, ite_false, vI_i, vR_n, vR_r, vR_v, reduceCtorEq]
  · have hj' : j < 24 := by omega
    have hL := (hX.2.2.2.1 j).2.1 hl
    obtain ⟨s, n, wy, p, n1, n2, n3, n4, n5, n6, n7, n8⟩ := hM.2.2.1 j hl
    have hh := x_hasNumber (fu := fu) hX hl hj' n3 (x := y)
    by_cases c1 : y < 0
    · rw [if_pos c1] at hh
      refine ⟨0, ?_, ?_⟩
      · simp only [fX9_get, rcv_mk kc, x_find1 hX hJ hj hl, rcv_mk hL.1, hh, Option.bind_some, bn2_s, zz_0, zz_1, if_true, if_false, ite_true, ite_false, vI_i, vR_n, vR_r, vR_v, reduceCtorEq]
      · rw [h.w]
        simp only [fX10_get, rcv_m hT, m_isJob1 hT f1 hJ hj hl, c1, Option.bind_some, bn2_s, zz_0, zz_1, if_true, if_false, ite_true, ite_false, vI_i, vR_n, vR_r, vR_v, reduceCtorEq]
        rfl
    · rw [if_neg c1] at hh
      obtain ⟨i, i1, rfl⟩ := nI_of c1
      by_cases c2 : n ≤ i
      · have c3 : nI n ≤ nI i := nI_le c2 i1
        rw [if_pos c3] at hh
        refine ⟨0, ?_, ?_⟩
        · simp only [fX9_get, rcv_mk kc, x_find1 hX hJ hj hl, rcv_mk hL.1, hh, Option.bind_some, bn2_s, zz_0, zz_1, if_true, if_false, ite_true, ite_false, vI_i, vR_n, vR_r, vR_v, reduceCtorEq]
        · rw [h.w]
          simp +decide only [fX10_get, Option.bind_some, bn2_s, zz_0, zz_1, if_true, if_false, ite_true, ite_false, vI_i, vR_n, vR_r, vR_v, reduceCtorEq, gI_m hT, gR_m hT, rcv_m hT, pV_m hT, aI_24 hT, sV_24 hT, aI_3 hT, sV_3 hT, aI_18 hT, sV_18 hT, aI_19 hT, sV_19 hT, aI_mZ hT, sV_mZ hT, ui_s, ui_n, ua_s, ua_k, m_isJob1 hT f1 hJ hj hl, c1, hj', n3, c3]
      · have c3 : ¬ nI n ≤ nI i := nI_ge (by omega) (by omega)
        rw [if_neg c3] at hh
        obtain ⟨f, q1, q2, q3⟩ := hM.cell hl n3 n4 (by omega)
        obtain ⟨b1, b2, b3, b4, b5⟩ := hL.2.2.2.2 j (Or.inl rfl)
        rw [bOf_j _ hj', q1] at b4
        have e2 : F (ad (200 + j)) 2 = .ref (ad j) := hL.2.2.2.1 2 (by omega)
        have rd := x_read (fu := fu) (nx := nx) hA (i := f + i) (by omega)
        have hi : f + i < nW := by omega
        refine ⟨ar 3 (f + i), ?_, ?_⟩
        · simp +decide only [fX9_get, rcv_mk kc, x_find1 hX hJ hj hl, rcv_mk hL.1, hh, gR_mk kc, hX.1.2.2.1, gR_mk hL.1, e2, gI_mk b1, b4, rcv_mk hA.1, nI_add, rd, Option.bind_some, bn2_s, zz_0, zz_1, if_true, if_false, ite_true, ite_false, vI_i, vR_n, vR_r, vR_v, reduceCtorEq]
        · rw [h.w]
          simp +decide only [fX10_get, Option.bind_some, bn2_s, zz_0, zz_1, if_true, if_false, ite_true, ite_false, vI_i, vR_n, vR_r, vR_v, reduceCtorEq, gI_m hT, gR_m hT, rcv_m hT, pV_m hT, aI_24 hT, sV_24 hT, aI_3 hT, sV_3 hT, aI_18 hT, sV_18 hT, aI_19 hT, sV_19 hT, aI_mZ hT, sV_mZ hT, ui_s, ui_n, ua_s, ua_k, m_isJob1 hT f1 hJ hj hl, c1, hj', n3, c3, q1, nI_add, hi]
theorem op_word (h : INV T F nx c nW nJ st fi ar ad da bl ql) (x : Int32) : ∃ r, fX9_word fu (mkS T F nx) c x = some (r, mkS T F nx) ∧ fX10_word fu (mkS T F nx) (c + 6) x = some (r, mkS T F nx) := by
  obtain ⟨hT, hF, hM, hX⟩ := id h
  have kc := hX.1.2.1
  have f0 := hM.1.1
  have hA := hX.1.1
  obtain ⟨a1, a2, a3, a4, a5, a6, a7, a8⟩ := id hA
  by_cases c1 : x < 0
  · refine ⟨0, ?_, ?_⟩
    · simp only [fX9_word, fX0_read, gR_mk kc, hX.1.2.2.1, rcv_mk a1, c1, Option.bind_some, bn2_s, zz_0, zz_1, if_true, if_false, ite_true, ite_false, vI_i, vR_n, vR_r, vR_v, reduceCtorEq]
    · simp only [fX10_word, c1, if_true]
  · obtain ⟨i, i1, rfl⟩ := nI_of c1
    by_cases c2 : nW ≤ i
    · have c3 : nI nW ≤ nI i := nI_le c2 i1
      refine ⟨0, ?_, ?_⟩
      · have hl := aL_mk (F := F) (nx := nx) a2
        simp only [fX9_word, fX0_read, gR_mk kc, hX.1.2.2.1, rcv_mk a1, c1, gR_mk a1, a6, hl, a3, c3, Option.bind_some, bn2_s, zz_0, zz_1, if_true, if_false, ite_true, ite_false, vI_i, vR_n, vR_r, vR_v, reduceCtorEq]
      · rw [h.w]
        simp +decide only [fX10_word, Option.bind_some, bn2_s, zz_0, zz_1, if_true, if_false, ite_true, ite_false, vI_i, vR_n, vR_r, vR_v, reduceCtorEq, gI_m hT, gR_m hT, rcv_m hT, pV_m hT, aI_24 hT, sV_24 hT, aI_3 hT, sV_3 hT, aI_18 hT, sV_18 hT, aI_19 hT, sV_19 hT, aI_mZ hT, sV_mZ hT, ui_s, ui_n, ua_s, ua_k, c1, f0, c3]
    · have c3 : ¬ nI nW ≤ nI i := nI_ge (by omega) (by omega)
      have hi : i < nW := by omega
      have rd := x_read (fu := fu) (nx := nx) hA (i := i) hi
      refine ⟨ar 3 i, ?_, ?_⟩
      · simp only [fX9_word, gR_mk kc, hX.1.2.2.1, rcv_mk a1, rd, Option.bind_some, bn2_s, zz_0, zz_1, if_true, if_false, ite_true, ite_false, vI_i, vR_n, vR_r, vR_v, reduceCtorEq]
      · rw [h.w]
        simp +decide only [fX10_word, Option.bind_some, bn2_s, zz_0, zz_1, if_true, if_false, ite_true, ite_false, vI_i, vR_n, vR_r, vR_v, reduceCtorEq, gI_m hT, gR_m hT, rcv_m hT, pV_m hT, aI_24 hT, sV_24 hT, aI_3 hT, sV_3 hT, aI_18 hT, sV_18 hT, aI_19 hT, sV_19 hT, aI_mZ hT, sV_mZ hT, ui_s, ui_n, ua_s, ua_k, c1, f0, c3, hi]
def jP (ar : Nat → Nat → Int32) (da : Nat → Nat) (a : Nat) : Int32 := ar 7 (da a - 200)
theorem jP_j (hX : XI T F nx c nW nJ fi ar ad da bl ql) (hl : ar 4 j ≠ 0) : jP ar da (ad (200 + j)) = ar 7 j := by
  have hL := (hX.2.2.2.1 j).2.1 hl
  unfold jP
  rw [hL.2.2.1, show 200 + j - 200 = j by omega]
theorem jP_F (hX : XI T F nx c nW nJ fi ar ad da bl ql) (hl : ar 4 j ≠ 0) : F (ad (200 + j)) 4 = .int (jP ar da (ad (200 + j))) := by
  have hL := (hX.2.2.2.1 j).2.1 hl
  rw [jP_j hX hl]
  exact hL.2.2.2.1 4 (by omega)
theorem jP_L (hX : XI T F nx c nW nJ fi ar ad da bl ql) (hQ : QL ar st ql) : ∀ b ∈ ql.map (aj ad), F b 4 = .int (jP ar da b) := fun b hb => by
  obtain ⟨j, hj, rfl⟩ := List.mem_map.mp hb
  exact jP_F hX (by rw [(hQ.2.1 j).mp hj]; decide)
theorem XI.ij (hX : XI T F nx c nW nJ fi ar ad da bl ql) (h1 : ar 4 i ≠ 0) (h2 : ar 4 j ≠ 0) (e : ad (200 + i) = ad (200 + j)) : i = j := by
  have d1 := ((hX.2.2.2.1 i).2.1 h1).2.2.1
  have d2 := ((hX.2.2.2.1 j).2.1 h2).2.2.1
  rw [e, d2] at d1
  omega
theorem XI.qmem (hX : XI T F nx c nW nJ fi ar ad da bl ql) (hQ : QL ar st ql) (hl : ar 4 j ≠ 0) : ad (200 + j) ∈ ql.map (aj ad) ↔ j ∈ ql := by
  constructor
  · intro hm
    obtain ⟨i, hi, e⟩ := List.mem_map.mp hm
    have := hX.ij (by rw [(hQ.2.1 i).mp hi]; decide) hl e
    rw [← this]; exact hi
  · intro hm
    exact List.mem_map.mpr ⟨j, hm, rfl⟩
theorem nd_map {f : Nat → Nat} : ∀ {l : List Nat}, l.Nodup → (∀ a ∈ l, ∀ b ∈ l, f a = f b → a = b) → (l.map f).Nodup
  | [], _, _ => List.nodup_nil
  | x :: l, h, hi => by
    rw [List.nodup_cons] at h
    rw [List.map_cons, List.nodup_cons]
    refine ⟨fun hm => ?_, nd_map h.2 (fun a ha b hb => hi a (by simp [ha]) b (by simp [hb]))⟩
    obtain ⟨y, hy, e⟩ := List.mem_map.mp hm
    have := hi y (by simp [hy]) x (by simp) e
    rw [this] at hy
    exact h.1 hy
theorem XI.qnd (hX : XI T F nx c nW nJ fi ar ad da bl ql) (hQ : QL ar st ql) : (ql.map (aj ad)).Nodup :=
  nd_map hQ.1 (fun a ha b hb e => hX.ij (by rw [(hQ.2.1 a).mp ha]; decide) (by rw [(hQ.2.1 b).mp hb]; decide) e)
theorem MI.qlt (hM : MI nW nJ st fi ar bl ql) : ∀ k ∈ ql, k < nJ := fun k hk => hM.lt (by rw [(hM.2.2.2.2.2.2.2.1 k).mp hk]; decide)
theorem MI.qlen (hM : MI nW nJ st fi ar bl ql) : ql.length ≤ 24 := by
  have := nd_len nJ ql hM.2.2.2.2.2.2.1 hM.qlt
  have := hM.1.2.2.2.1
  omega
theorem cnt_eq (hX : XI T F nx c nW nJ fi ar ad da bl ql) (hl : ar 4 j = 2) : ∀ (l : List Nat), l.Nodup → (∀ k ∈ l, ar 4 k = 2) → l.Pairwise (aft ar) → j ∈ l → cntQ (jP ar da) (ad (200 + j)) (l.map (aj ad)) = (l.filter (fun k => decide (ar 4 k = 2 ∧ ar 7 k = ar 7 j ∧ ar 11 k < ar 11 j))).length
  | [], _, _, _, hm => by cases hm
  | b :: l, hn, h2, hp, hm => by
    rw [List.nodup_cons] at hn
    rw [List.pairwise_cons] at hp
    have hj0 : ar 4 j ≠ 0 := by rw [hl]; decide
    have hb2 := h2 b (by simp)
    have hb0 : ar 4 b ≠ 0 := by rw [hb2]; decide
    rw [List.map_cons]
    unfold cntQ
    rw [show aj ad b = ad (200 + b) from rfl]
    by_cases e : b = j
    · subst e
      rw [if_pos rfl]
      symm
      rw [List.length_eq_zero_iff, List.filter_eq_nil_iff]
      intro k hk
      simp only [decide_eq_true_eq]
      rintro ⟨k1, k2, k3⟩
      rcases List.mem_cons.mp hk with rfl | hk
      · exact i32_irr _ k3
      · exact aft_asy (hp.1 k hk) (Or.inr ⟨k2, k3⟩)
    · have hm2 : j ∈ l := by
        rcases List.mem_cons.mp hm with z | z
        · exact absurd z.symm e
        · exact z
      rw [if_neg (fun z => e (hX.ij hb0 hj0 z)), cnt_eq hX hl l hn.2 (fun k hk => h2 k (by simp [hk])) hp.2 hm2, List.filter_cons]
      rw [jP_j hX hb0, jP_j hX hj0]
      have ha := hp.1 j hm2
      by_cases c1 : ar 7 b = ar 7 j
      · have c2 : ar 11 b < ar 11 j := by
          rcases ha with z | z
          · rw [c1] at z; exact absurd z (i32_irr _)
          · exact z.2
        rw [if_pos c1, if_pos (by simp [c1, c2, hb2]), List.length_cons]; omega
      · rw [if_neg c1, if_neg (by simp [c1])]; omega
theorem op_job (h : INV T F nx c nW nJ st fi ar ad da bl ql) (hfu : 3000 < fu) (x y : Int32) : ∃ r, fX9_job fu (mkS T F nx) c x y = some (r, mkS T F nx) ∧ fX10_job fu (mkS T F nx) (c + 6) x y = some (r, mkS T F nx) := by
  obtain ⟨hT, hF, hM, hX⟩ := id h
  have kc := hX.1.2.1
  have f1 := hM.1.2.1
  have hJ := hM.1.2.2.2.1
  have hQ := hM.2.2.2.2.2.2
  rcases jcase nJ ar x with hb | ⟨j, hj, rfl, hl⟩
  · refine ⟨-1, ?_, ?_⟩
    · simp only [fX9_job, rcv_mk kc, x_find0 hX hJ hb, Option.bind_some, bn2_s, zz_0, zz_1, if_true, if_false, ite_true, ite_false, vI_i, vR_n, vR_r, vR_v, reduceCtorEq]
    · rw [h.w]
      simp only [fX10_job, rcv_m hT, m_isJob0 hT f1 hJ hb, Option.bind_some, bn2_s, zz_0, zz_1, if_true, if_false, ite_true, ite_false, vI_i, vR_n, vR_r, vR_v, reduceCtorEq]
  · have hj' : j < 24 := by omega
    have hL := (hX.2.2.2.1 j).2.1 hl
    have fj := hL.2.2.2.1
    obtain ⟨b1, b2, b3, b4, b5⟩ := hL.2.2.2.2 j (Or.inl rfl)
    rw [bOf_j _ hj'] at b4
    rw [zOf_j _ hj'] at b5
    obtain ⟨d1, d2, d3, d4, d5⟩ := hL.2.2.2.2 (100 + j) (Or.inr rfl)
    rw [bOf_1] at d4
    have e1 : F (ad (200 + j)) 1 = .int (ar 6 j) := fj 1 (by omega)
    have e2 : F (ad (200 + j)) 2 = .ref (ad j) := fj 2 (by omega)
    have e3 : F (ad (200 + j)) 3 = .ref (ad (100 + j)) := fj 3 (by omega)
    have e4 : F (ad (200 + j)) 4 = .int (ar 7 j) := fj 4 (by omega)
    have e6 : F (ad (200 + j)) 6 = .int (ar 8 j) := fj 6 (by omega)
    have e7 : F (ad (200 + j)) 7 = .int (ar 12 j) := fj 7 (by omega)
    have e8 : F (ad (200 + j)) 8 = .int (ar 13 j) := fj 8 (by omega)
    have xa := x_ahead (fu := fu) (nx := nx) (P := jP ar da) hX.1.2.2.2.2.2.2.2.2.2.2.2.2 hL.1 (jP_F hX hl) hX.2.2.1 (jP_L hX hQ) (by rw [List.length_map]; have := hM.qlen; omega)
    rw [h.w]
    rw [h.w] at xa
    have hmw : ∀ k, kd T (c + 6) = some k → True := fun _ _ => trivial
    have ma : fX10_ahead fu (mw T F nx (c + 6) fi ar) (c + 6) (nI j) = some (if ad (200 + j) ∈ ql.map (aj ad) then nI (cntQ (jP ar da) (ad (200 + j)) (ql.map (aj ad))) else -1, mw T F nx (c + 6) fi ar) := by
      by_cases c2 : ar 4 j = 2
      · have hq : j ∈ ql := (hQ.2.1 j).mpr c2
        rw [if_pos ((hX.qmem hQ hl).mpr hq), cnt_eq hX c2 ql hQ.1 (fun k hk => (hQ.2.1 k).mp hk) hQ.2.2.1 hq]
        have hm := m_ahead_loop (fu := fu) (G := F) (nx := nx) (ar := ar) hT f1 hJ hj' nJ fu 0 0 (by omega) (by omega)
        rw [cU_list ql _ nJ hQ.1 hM.qlt (fun k _ hk => (hQ.2.1 k).mpr (by simp only [decide_eq_true_eq] at hk; exact hk.1)), Nat.zero_add] at hm
        simp +decide only [fX10_ahead, Option.bind_some, bn2_s, zz_0, zz_1, if_true, if_false, ite_true, ite_false, vI_i, vR_n, vR_r, vR_v, reduceCtorEq, gI_m hT, gR_m hT, rcv_m hT, pV_m hT, aI_24 hT, sV_24 hT, aI_3 hT, sV_3 hT, aI_18 hT, sV_18 hT, aI_19 hT, sV_19 hT, aI_mZ hT, sV_mZ hT, ui_s, ui_n, ua_s, ua_k, hj', c2]
        exact hm
      · have hq : ¬ ad (200 + j) ∈ ql.map (aj ad) := fun z => c2 ((hQ.2.1 j).mp ((hX.qmem hQ hl).mp z))
        rw [if_neg hq]
        simp +decide only [fX10_ahead, Option.bind_some, bn2_s, zz_0, zz_1, if_true, if_false, ite_true, ite_false, vI_i, vR_n, vR_r, vR_v, reduceCtorEq, gI_m hT, gR_m hT, rcv_m hT, pV_m hT, aI_24 hT, sV_24 hT, aI_3 hT, sV_3 hT, aI_18 hT, sV_18 hT, aI_19 hT, sV_19 hT, aI_mZ hT, sV_mZ hT, ui_s, ui_n, ua_s, ua_k, hj', c2]
    generalize (if ad (200 + j) ∈ ql.map (aj ad) then nI (cntQ (jP ar da) (ad (200 + j)) (ql.map (aj ad))) else -1) = v6 at xa ma
    refine ⟨if y = 0 then ar 5 j else if y = 1 then ar 6 j else if y = 2 then ar 7 j else if y = 3 then ar 8 j else if y = 4 then ar 9 j else if y = 5 then ar 10 j else if y = 6 then v6 else if y = 7 then ar 12 j else if y = 8 then ar 13 j else -1, ?_, ?_⟩
    · have fd := x_find1 (fu := fu) hX hJ hj hl
      rw [h.w] at fd
      rw [← h.w] at fd xa ⊢
      simp +decide only [fX9_job, rcv_mk kc, fd, gR_mk kc, hX.1.2.2.2.2.1, rcv_mk hX.1.2.2.2.2.2.2.2.2.2.2.2.2, gI_mk hL.1, gR_mk hL.1, gI_mk b1, gI_mk d1, b4, b5, d4, e1, e2, e3, e4, e6, e7, e8, xa, Option.bind_some, bn2_s, zz_0, zz_1, if_true, if_false, ite_true, ite_false, vI_i, vR_n, vR_r, vR_v, reduceCtorEq]
      repeat' split
      all_goals rfl
    · simp +decide only [fX10_job, Option.bind_some, bn2_s, zz_0, zz_1, if_true, if_false, ite_true, ite_false, vI_i, vR_n, vR_r, vR_v, reduceCtorEq, gI_m hT, gR_m hT, rcv_m hT, pV_m hT, aI_24 hT, sV_24 hT, aI_3 hT, sV_3 hT, aI_18 hT, sV_18 hT, aI_19 hT, sV_19 hT, aI_mZ hT, sV_mZ hT, ui_s, ui_n, ua_s, ua_k, m_isJob1 hT f1 hJ hj hl, hj', ma]
      repeat' split
      all_goals rfl
theorem x_cj_loop (hX : XI T F nx c nW nJ fi ar ad da bl ql) (hJ : nJ ≤ 24) : ∀ (r m i a : Nat), i + r = nJ → r < m → fX9_countJobs_4 fu m (mkS T F nx) c (nI a) (nI i) = some (nI (a + cU (fun k => decide (ar 4 k ≠ 0)) i r), mkS T F nx) := by
  obtain ⟨⟨hA, s2, s3, s4, s5, s6, s7, s8, s9, s10, s11, s12, s13⟩, h2, h3, h4, h5, h6⟩ := hX
  have hl := aL_mk (F := F) (nx := nx) s11
  intro r
  induction r with
  | zero =>
    intro m i a h1 h2
    obtain ⟨m, rfl⟩ : ∃ k, m = k + 1 := ⟨m - 1, by omega⟩
    have c : nI nJ ≤ nI i := nI_le (by omega) (by omega)
    simp only [fX9_countJobs_4, gR_mk s2, s4, hl, s12, c, cU, Nat.add_zero, Option.bind_some, bn2_s, zz_0, zz_1, if_true, if_false, ite_true, ite_false, vI_i, vR_n, vR_r, vR_v, reduceCtorEq]
  | succ r ih =>
    intro m i a h1 h2
    obtain ⟨m, rfl⟩ : ∃ k, m = k + 1 := ⟨m - 1, by omega⟩
    have c : ¬ nI nJ ≤ nI i := nI_ge (by omega) (by omega)
    have e2 := aR_mk (F := F) (nx := nx) s11 (i := i) (by omega) (by omega)
    have e3 := (h4 i).1 (by omega)
    have st := ih m (i + 1) a (by omega) (by omega)
    have go := ih m (i + 1) (a + 1) (by omega) (by omega)
    unfold cU
    by_cases c2 : ar 4 i = 0
    · rw [if_pos c2] at e3
      simp +decide only [fX9_countJobs_4, fX9_countJobs_25, gR_mk s2, s4, hl, s12, c, e2, e3, c2, nI_ad1, st, ne_eq, not_true_eq_false, decide_false, Nat.zero_add, Option.bind_some, bn2_s, zz_0, zz_1, if_true, if_false, ite_true, ite_false, vI_i, vR_n, vR_r, vR_v, reduceCtorEq]
    · rw [if_neg c2] at e3
      simp +decide only [fX9_countJobs_4, fX9_countJobs_25, gR_mk s2, s4, hl, s12, c, e2, e3, c2, nI_ad1, go, ne_eq, not_false_eq_true, decide_true, Option.bind_some, bn2_s, zz_0, zz_1, if_true, if_false, ite_true, ite_false, vI_i, vR_n, vR_r, vR_v, reduceCtorEq]
      rw [Nat.add_assoc]
theorem op_count (h : INV T F nx c nW nJ st fi ar ad da bl ql) (hfu : 3001 < fu) (x : Int32) : ∃ r, fX9_count fu (mkS T F nx) c x = some (r, mkS T F nx) ∧ fX10_count fu (mkS T F nx) (c + 6) x = some (r, mkS T F nx) := by
  obtain ⟨hT, hF, hM, hX⟩ := id h
  obtain ⟨⟨hA, s2, s3, s4, s5, s6, s7, s8, s9, s10, s11, s12, s13⟩, h2, h3, h4, h5, h6⟩ := id hX
  obtain ⟨f0, f1, j1, hJ, w8, w3, ⟨qu, f2, qu2⟩, f16⟩ := hM.1
  have hQ := hM.2.2.2.2.2.2
  have hs := hM.2.2.2.2.2.1
  have hB := hM.2.2.2.1
  have hlen := srt_len hs
  have hs' : srt nW 0 (bl.map (am ad)) := by rw [srt_am]; exact hs
  obtain ⟨y1, y2, y3⟩ := x_counts (fu := fu) (nx := nx) hA s9 s10 h2 hs' (by rw [List.length_map]; omega)
  rw [fsum_am] at y1
  rw [fmax_am] at y2
  rw [fcnt_am] at y3
  have yl := x_len (fu := fu) (nx := nx) s13 h3 (by rw [List.length_map]; have := hM.qlen; omega)
  rw [List.length_map] at yl
  have yc := x_cj_loop (fu := fu) hX hJ nJ fu 0 0 (by omega) (by omega)
  have yw := aL_mk (F := F) (nx := nx) hA.2.1
  rw [hA.2.2.1] at yw
  have mg : ∀ x1, _ := fun x1 => m_gaps (fu := fu) (G := F) (nx := nx) hT f0 (x1 := x1) hB hs (by omega) (by omega)
  have m99 := m_c99 (fu := fu) (G := F) (nx := nx) (ar := ar) hT f1 hJ nJ fu 0 0 (by omega) (by omega)
  have m65 := m_c65 (fu := fu) (G := F) (nx := nx) (ar := ar) hT f1 hJ nJ fu 0 0 (by omega) (by omega)
  rw [cU_list ql _ nJ hQ.1 hM.qlt (fun k _ hk => (hQ.2.1 k).mpr (by simpa using hk))] at m99
  have ef : ql.filter (fun k => decide (ar 4 k = 2)) = ql := by
    rw [List.filter_eq_self]; intro k hk; simpa using (hQ.2.1 k).mp hk
  rw [ef] at m99
  rw [Nat.zero_add] at m99 m65 yc
  generalize cU (fun k => decide (ar 4 k ≠ 0)) 0 nJ = v4 at m65 yc
  have yc' : fX9_countJobs fu (mkS T F nx) c = some (nI v4, mkS T F nx) := yc
  have m99' : fX10_count_99 fu fu (mw T F nx (c + 6) fi ar) (c + 6) 0 0 = some (nI ql.length, mw T F nx (c + 6) fi ar) := m99
  have m65' : fX10_count_65 fu fu (mw T F nx (c + 6) fi ar) (c + 6) 0 0 = some (nI v4, mw T F nx (c + 6) fi ar) := m65
  have cs : x = 0 ∨ x = 1 ∨ x = 2 ∨ x = 3 ∨ x = 4 ∨ x = 5 ∨ x = 6 ∨ x = 7 ∨ x = 8 ∨ (¬ x = 0 ∧ ¬ x = 1 ∧ ¬ x = 2 ∧ ¬ x = 3 ∧ ¬ x = 4 ∧ ¬ x = 5 ∧ ¬ x = 6 ∧ ¬ x = 7 ∧ ¬ x = 8) := by
    by_cases c0 : x = 0
    · exact Or.inl c0
    · by_cases c1 : x = 1
      · exact Or.inr (Or.inl c1)
      · by_cases c2 : x = 2
        · exact Or.inr (Or.inr (Or.inl c2))
        · by_cases c3 : x = 3
          · exact Or.inr (Or.inr (Or.inr (Or.inl c3)))
          · by_cases c4 : x = 4
            · exact Or.inr (Or.inr (Or.inr (Or.inr (Or.inl c4))))
            · by_cases c5 : x = 5
              · exact Or.inr (Or.inr (Or.inr (Or.inr (Or.inr (Or.inl c5)))))
              · by_cases c6 : x = 6
                · exact Or.inr (Or.inr (Or.inr (Or.inr (Or.inr (Or.inr (Or.inl c6))))))
                · by_cases c7 : x = 7
                  · exact Or.inr (Or.inr (Or.inr (Or.inr (Or.inr (Or.inr (Or.inr (Or.inl c7)))))))
                  · by_cases c8 : x = 8
                    · exact Or.inr (Or.inr (Or.inr (Or.inr (Or.inr (Or.inr (Or.inr (Or.inr (Or.inl c8))))))))
                    · exact Or.inr (Or.inr (Or.inr (Or.inr (Or.inr (Or.inr (Or.inr (Or.inr (Or.inr ⟨c0, c1, c2, c3, c4, c5, c6, c7, c8⟩))))))))
  rcases cs with rfl | rfl | rfl | rfl | rfl | rfl | rfl | rfl | rfl | ⟨c0, c1, c2, c3, c4, c5, c6, c7, c8⟩
  · refine ⟨nI (fsum nW 0 bl), ?_, ?_⟩
    · simp +decide only [fX9_count, gR_mk s2, gI_mk s2, rcv_mk s2, s3, s5, s6, s7, s8, rcv_mk hA.1, rcv_mk s13, y1, y2, y3, yl, yc', gR_mk hA.1, hA.2.2.2.2.2.1, yw, Option.bind_some, bn2_s, zz_0, zz_1, if_true, if_false, ite_true, ite_false, vI_i, vR_n, vR_r, vR_v, reduceCtorEq]
    · rw [h.w]
      simp +decide only [fX10_count, fX10_count_52, Option.bind_some, bn2_s, zz_0, zz_1, if_true, if_false, ite_true, ite_false, vI_i, vR_n, vR_r, vR_v, reduceCtorEq, gI_m hT, gR_m hT, rcv_m hT, pV_m hT, aI_24 hT, sV_24 hT, aI_3 hT, sV_3 hT, aI_18 hT, sV_18 hT, aI_19 hT, sV_19 hT, aI_mZ hT, sV_mZ hT, ui_s, ui_n, ua_s, ua_k, mg, m99', m65', f0]
  · refine ⟨nI (fmax nW 0 bl 0), ?_, ?_⟩
    · simp +decide only [fX9_count, gR_mk s2, gI_mk s2, rcv_mk s2, s3, s5, s6, s7, s8, rcv_mk hA.1, rcv_mk s13, y1, y2, y3, yl, yc', gR_mk hA.1, hA.2.2.2.2.2.1, yw, Option.bind_some, bn2_s, zz_0, zz_1, if_true, if_false, ite_true, ite_false, vI_i, vR_n, vR_r, vR_v, reduceCtorEq]
    · rw [h.w]
      simp +decide only [fX10_count, fX10_count_52, Option.bind_some, bn2_s, zz_0, zz_1, if_true, if_false, ite_true, ite_false, vI_i, vR_n, vR_r, vR_v, reduceCtorEq, gI_m hT, gR_m hT, rcv_m hT, pV_m hT, aI_24 hT, sV_24 hT, aI_3 hT, sV_3 hT, aI_18 hT, sV_18 hT, aI_19 hT, sV_19 hT, aI_mZ hT, sV_mZ hT, ui_s, ui_n, ua_s, ua_k, mg, m99', m65', f0]
  · refine ⟨nI (fcnt nW 0 bl), ?_, ?_⟩
    · simp +decide only [fX9_count, gR_mk s2, gI_mk s2, rcv_mk s2, s3, s5, s6, s7, s8, rcv_mk hA.1, rcv_mk s13, y1, y2, y3, yl, yc', gR_mk hA.1, hA.2.2.2.2.2.1, yw, Option.bind_some, bn2_s, zz_0, zz_1, if_true, if_false, ite_true, ite_false, vI_i, vR_n, vR_r, vR_v, reduceCtorEq]
    · rw [h.w]
      simp +decide only [fX10_count, fX10_count_52, Option.bind_some, bn2_s, zz_0, zz_1, if_true, if_false, ite_true, ite_false, vI_i, vR_n, vR_r, vR_v, reduceCtorEq, gI_m hT, gR_m hT, rcv_m hT, pV_m hT, aI_24 hT, sV_24 hT, aI_3 hT, sV_3 hT, aI_18 hT, sV_18 hT, aI_19 hT, sV_19 hT, aI_mZ hT, sV_mZ hT, ui_s, ui_n, ua_s, ua_k, mg, m99', m65', f0]
  · refine ⟨fi 15, ?_, ?_⟩
    · simp +decide only [fX9_count, gR_mk s2, gI_mk s2, rcv_mk s2, s3, s5, s6, s7, s8, rcv_mk hA.1, rcv_mk s13, y1, y2, y3, yl, yc', gR_mk hA.1, hA.2.2.2.2.2.1, yw, Option.bind_some, bn2_s, zz_0, zz_1, if_true, if_false, ite_true, ite_false, vI_i, vR_n, vR_r, vR_v, reduceCtorEq]
    · rw [h.w]
      simp +decide only [fX10_count, fX10_count_52, Option.bind_some, bn2_s, zz_0, zz_1, if_true, if_false, ite_true, ite_false, vI_i, vR_n, vR_r, vR_v, reduceCtorEq, gI_m hT, gR_m hT, rcv_m hT, pV_m hT, aI_24 hT, sV_24 hT, aI_3 hT, sV_3 hT, aI_18 hT, sV_18 hT, aI_19 hT, sV_19 hT, aI_mZ hT, sV_mZ hT, ui_s, ui_n, ua_s, ua_k, mg, m99', m65', f0]
  · refine ⟨nI v4, ?_, ?_⟩
    · simp +decide only [fX9_count, gR_mk s2, gI_mk s2, rcv_mk s2, s3, s5, s6, s7, s8, rcv_mk hA.1, rcv_mk s13, y1, y2, y3, yl, yc', gR_mk hA.1, hA.2.2.2.2.2.1, yw, Option.bind_some, bn2_s, zz_0, zz_1, if_true, if_false, ite_true, ite_false, vI_i, vR_n, vR_r, vR_v, reduceCtorEq]
    · rw [h.w]
      simp +decide only [fX10_count, fX10_count_52, Option.bind_some, bn2_s, zz_0, zz_1, if_true, if_false, ite_true, ite_false, vI_i, vR_n, vR_r, vR_v, reduceCtorEq, gI_m hT, gR_m hT, rcv_m hT, pV_m hT, aI_24 hT, sV_24 hT, aI_3 hT, sV_3 hT, aI_18 hT, sV_18 hT, aI_19 hT, sV_19 hT, aI_mZ hT, sV_mZ hT, ui_s, ui_n, ua_s, ua_k, mg, m99', m65', f0]
  · refine ⟨nI ql.length, ?_, ?_⟩
    · simp +decide only [fX9_count, gR_mk s2, gI_mk s2, rcv_mk s2, s3, s5, s6, s7, s8, rcv_mk hA.1, rcv_mk s13, y1, y2, y3, yl, yc', gR_mk hA.1, hA.2.2.2.2.2.1, yw, Option.bind_some, bn2_s, zz_0, zz_1, if_true, if_false, ite_true, ite_false, vI_i, vR_n, vR_r, vR_v, reduceCtorEq]
    · rw [h.w]
      simp +decide only [fX10_count, fX10_count_52, Option.bind_some, bn2_s, zz_0, zz_1, if_true, if_false, ite_true, ite_false, vI_i, vR_n, vR_r, vR_v, reduceCtorEq, gI_m hT, gR_m hT, rcv_m hT, pV_m hT, aI_24 hT, sV_24 hT, aI_3 hT, sV_3 hT, aI_18 hT, sV_18 hT, aI_19 hT, sV_19 hT, aI_mZ hT, sV_mZ hT, ui_s, ui_n, ua_s, ua_k, mg, m99', m65', f0]
  · refine ⟨fi 17, ?_, ?_⟩
    · simp +decide only [fX9_count, gR_mk s2, gI_mk s2, rcv_mk s2, s3, s5, s6, s7, s8, rcv_mk hA.1, rcv_mk s13, y1, y2, y3, yl, yc', gR_mk hA.1, hA.2.2.2.2.2.1, yw, Option.bind_some, bn2_s, zz_0, zz_1, if_true, if_false, ite_true, ite_false, vI_i, vR_n, vR_r, vR_v, reduceCtorEq]
    · rw [h.w]
      simp +decide only [fX10_count, fX10_count_52, Option.bind_some, bn2_s, zz_0, zz_1, if_true, if_false, ite_true, ite_false, vI_i, vR_n, vR_r, vR_v, reduceCtorEq, gI_m hT, gR_m hT, rcv_m hT, pV_m hT, aI_24 hT, sV_24 hT, aI_3 hT, sV_3 hT, aI_18 hT, sV_18 hT, aI_19 hT, sV_19 hT, aI_mZ hT, sV_mZ hT, ui_s, ui_n, ua_s, ua_k, mg, m99', m65', f0]
  · refine ⟨nI nW, ?_, ?_⟩
    · simp +decide only [fX9_count, gR_mk s2, gI_mk s2, rcv_mk s2, s3, s5, s6, s7, s8, rcv_mk hA.1, rcv_mk s13, y1, y2, y3, yl, yc', gR_mk hA.1, hA.2.2.2.2.2.1, yw, Option.bind_some, bn2_s, zz_0, zz_1, if_true, if_false, ite_true, ite_false, vI_i, vR_n, vR_r, vR_v, reduceCtorEq]
    · rw [h.w]
      simp +decide only [fX10_count, fX10_count_52, Option.bind_some, bn2_s, zz_0, zz_1, if_true, if_false, ite_true, ite_false, vI_i, vR_n, vR_r, vR_v, reduceCtorEq, gI_m hT, gR_m hT, rcv_m hT, pV_m hT, aI_24 hT, sV_24 hT, aI_3 hT, sV_3 hT, aI_18 hT, sV_18 hT, aI_19 hT, sV_19 hT, aI_mZ hT, sV_mZ hT, ui_s, ui_n, ua_s, ua_k, mg, m99', m65', f0]
  · refine ⟨fi 2, ?_, ?_⟩
    · simp +decide only [fX9_count, gR_mk s2, gI_mk s2, rcv_mk s2, s3, s5, s6, s7, s8, rcv_mk hA.1, rcv_mk s13, y1, y2, y3, yl, yc', gR_mk hA.1, hA.2.2.2.2.2.1, yw, Option.bind_some, bn2_s, zz_0, zz_1, if_true, if_false, ite_true, ite_false, vI_i, vR_n, vR_r, vR_v, reduceCtorEq]
    · rw [h.w]
      simp +decide only [fX10_count, fX10_count_52, Option.bind_some, bn2_s, zz_0, zz_1, if_true, if_false, ite_true, ite_false, vI_i, vR_n, vR_r, vR_v, reduceCtorEq, gI_m hT, gR_m hT, rcv_m hT, pV_m hT, aI_24 hT, sV_24 hT, aI_3 hT, sV_3 hT, aI_18 hT, sV_18 hT, aI_19 hT, sV_19 hT, aI_mZ hT, sV_mZ hT, ui_s, ui_n, ua_s, ua_k, mg, m99', m65', f0]
  · refine ⟨-1, ?_, ?_⟩
    · simp only [fX9_count, c0, c1, c2, c3, c4, c5, c6, c7, c8, if_false]
    · simp only [fX10_count, c0, c1, c2, c3, c4, c5, c6, c7, c8, if_false]
end RD
