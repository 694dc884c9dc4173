section BK
variable {T T' : Nat → Option (Nat × Nat)} {F F' F0 F1 G : Nat → Nat → Value} {nx nx' nx2 c nW nJ st st' i j fu z n K wy p : Nat} {fi fi' : Nat → Int32} {ar ar' : Nat → Nat → Int32} {ad da ad' da' : Nat → Nat} {bl bl' : bL} {ql : List Nat} {w w' : Nat → Int32}
theorem bfr_F {L : List Nat} (h : bfr F F1 p L) (hL : ∀ q ∈ L, kd T q = some 1) (hp : kd T p = some 1) : (∀ q, kd T q ≠ some 1 → F1 q = F q) ∧ (∀ q, q ≠ p → ∀ f, f ≠ 2 → F1 q f = F q f) :=
  ⟨fun q hq => h.1 q (fun e => hq (by rw [e]; exact hp)) (fun e => hq (hL q e)), h.2⟩
theorem XI.blk (hX : XI T F nx c nW nJ fi ar ad da bl ql) (hM : MI nW nJ st fi ar bl ql) (hT : ∀ q k, kd T q = some k → kd T' q = some k) (hf : ∀ q, nx' ≤ q → T' q = none) (hnx : c + 21 ≤ nx') (hS : ST T' F' c nW nJ fi' (ar' 3)) (hb : bch T' F' (c + 3) (bl'.map (am ad'))) (hjq : j ∉ ql) (had : ∀ i, i ≠ j → i < 24 → ∀ m, m ≤ 3 → ad' (100 * m + i) = ad (100 * m + i)) (hda : ∀ q k, kd T q = some k → da' q = da q)
    (hFj : ∀ q, kd T q = some 4 → F' q = F q) (hFs : ∀ q K, kd T q = some K → (K = 2 ∨ K = 3 ∨ K = 5 ∨ K = 6) → F' q = F q) (hF5 : F' (c + 5) = F (c + 5)) (hF4 : ∀ i, i ≠ j → F' (c + 4) i = F (c + 4) i) (hFb : ∀ i, i ≠ j → ar 4 i ≠ 0 → ∀ q, q = i ∨ q = 100 + i → ∀ k, k ≤ 1 → F' (ad q) k = F (ad q) k)
    (h0 : ∀ i, nJ ≤ i → ar' 4 i = 0) (ha : ∀ i, i ≠ j → ∀ k, 4 ≤ k → k ≤ 14 → ar' k i = ar k i) (h19 : ∀ i, i ≠ j → ∀ t, t < 10 → ar' 19 (10 * i + t) = ar 19 (10 * i + t)) (hw : ∀ i, i ≠ j → ar 4 i = 2 → ar 6 i = 4 → ∀ bf, bf ≤ 3000 → ar 10 i = nI bf → ∀ t, t < 24 → ar' 3 (bf + t) = ar 3 (bf + t)) (hj : XJ T' F' c nJ ar' ad' da' j) : XI T' F' nx' c nW nJ fi' ar' ad' da' bl' ql := by
  have hQ := hM.2.2.2.2.2.2
  have hJ := hM.1.2.2.2.1
  refine ⟨hS, hb, ?_, fun i => ?_, hf, hnx⟩
  · have e : ql.map (aj ad') = ql.map (aj ad) := by
      apply List.map_congr_left
      intro k hk
      have hk2 := hM.qlt k hk
      exact had k (fun z => hjq (by rw [← z]; exact hk)) (by omega) 2 (by omega)
    rw [e, hF5]
    exact jch_congr (jch_T hT hX.2.2.1) (fun q hq => by rw [hFj q (hX.qj hQ q hq).1])
  · by_cases e : i = j
    · rw [e]; exact hj
    · by_cases hi : i < nJ
      · have hx := hX.2.2.2.1 i
        refine hx.cg (fun z => hM.lt24 z) hT (hF4 i e) (ha i e) (h19 i e) (had i e (by omega)) (fun z m hm => ?_) (fun z => ?_) (fun z k hk => ?_) (hFb i e) (fun z => ?_) (hw i e)
        · have hL := hx.2.1 z
          have : m = 0 ∨ m = 1 ∨ m = 2 := by omega
          rcases this with rfl | rfl | rfl
          · rw [show 100 * 0 + i = i by omega]; exact hda _ _ (hL.2.2.2.2 i (Or.inl rfl)).1
          · exact hda _ _ (hL.2.2.2.2 (100 + i) (Or.inr rfl)).1
          · exact hda _ _ hL.1
        · obtain ⟨K, gi, o, _, hk, _⟩ := hx.2.2 z
          exact hda _ _ hk
        · rw [hFj _ (hx.2.1 z).1]
        · obtain ⟨K, gi, o, _, hk, hK, _⟩ := hx.2.2 z
          exact hFs _ K hk hK
      · have z := h0 i (by omega)
        exact ⟨fun z2 => absurd z2 hi, fun z2 => absurd z z2, fun z2 => by rw [z] at z2; exact absurd z2 (by decide)⟩
theorem QL.keep (h : QL ar st ql) (hj : ar 4 j ≠ 2) (h4 : ∀ k, k ≠ j → ar' 4 k = ar 4 k) (hj' : ar' 4 j ≠ 2) (h7 : ∀ k, k ≠ j → ar' 7 k = ar 7 k) (h11 : ∀ k, k ≠ j → ar' 11 k = ar 11 k) : QL ar' st ql := by
  have := h.rm h4 hj' h7 h11
  have e : ql.filter (fun k => !(k == j)) = ql := by
    rw [List.filter_eq_self]
    intro k hk
    have : k ≠ j := fun z => hj (by rw [← z]; exact (h.2.1 k).mp hk)
    simp [this]
  rw [e] at this
  exact this
/-- the class's chain, seen by codes -/
theorem XI.ib (hX : XI T F nx c nW nJ fi ar ad da bl ql) {q q' : Nat} (h1 : cod q) (h2 : ar 4 (jb q) ≠ 0) (h3 : cod q') (h4 : ar 4 (jb q') ≠ 0) (e : ad q = ad q') : q = q' := by
  have d1 := (hX.bk h1 h2).2.2.1
  have d2 := (hX.bk h3 h4).2.2.1
  rw [e, d2] at d1
  exact d1.symm
/-- what the chain's methods want of a list of codes -/
def chL (T : Nat → Option (Nat × Nat)) (c : Nat) (ad : Nat → Nat) (D : Nat → Prop) : Prop := (∀ q, D q → kd T (ad q) = some 1 ∧ c + 21 ≤ ad q) ∧ (∀ q q', D q → D q' → ad q = ad q' → q = q')
theorem chL.nd {D : Nat → Prop} (h : chL T c ad D) {l : bL} (hn : (l.map (fun x => x.1)).Nodup) (hl : ∀ x ∈ l, D x.1) : ((c + 3) :: (l.map (am ad)).map (fun x => x.1)).Nodup := by
  rw [am_fst, List.nodup_cons]
  have hD : ∀ q ∈ l.map (fun x => x.1), D q := fun q hq => by
    obtain ⟨x, hx, rfl⟩ := List.mem_map.mp hq
    exact hl x hx
  refine ⟨fun hm => ?_, nd_map hn (fun a ha b hb e => h.2 a b (hD a ha) (hD b hb) e)⟩
  obtain ⟨q, hq, e⟩ := List.mem_map.mp hm
  have := (h.1 q (hD q hq)).2
  omega
theorem chL.kd {D : Nat → Prop} (h : chL T c ad D) (hA : xA T F c nW w) {l : bL} (hl : ∀ x ∈ l, D x.1) : ∀ q ∈ (c + 3) :: (l.map (am ad)).map (fun x => x.1), kd T q = some 1 := fun q hq => by
  rcases List.mem_cons.mp hq with rfl | hq
  · exact hA.2.2.2.2.1
  · rw [am_fst] at hq
    obtain ⟨q', hq', rfl⟩ := List.mem_map.mp hq
    obtain ⟨x, hx, rfl⟩ := List.mem_map.mp hq'
    exact (h.1 _ (hl x hx)).1
/-- giveBack by a code -/
theorem x_gb {D : Nat → Prop} (h : chL T c ad D) (hA : xA T F c nW w) {l : bL} {q : Nat} (hq : D q) (hl : ∀ x ∈ l, D x.1) (hn : (l.map (fun x => x.1)).Nodup) (hlen : l.length ≤ 3000) (hfu : 3001 < fu) (hb : bch T F (c + 3) (l.map (am ad))) :
    ∃ F', fX0_giveBack fu (mkS T F nx) (c + 1) (some (ad q)) = some ((), mkS T F' nx) ∧ bch T F' (c + 3) ((l.filter (fun x => !(x.1 == q))).map (am ad)) ∧ F' (ad q) 0 = .int (-1) ∧ F' (ad q) 1 = .int 0 ∧ (∀ a, kd T a ≠ some 1 → F' a = F a) ∧ (∀ a, a ≠ ad q → ∀ f, f ≠ 2 → F' a f = F a f) := by
  have hp := h.1 q hq
  obtain ⟨F', a1, a2, a3, a4, a5⟩ := x_giveBack (fu := fu) (nx := nx) hA hp.1 hb (by have := hp.2; omega) (h.nd hn hl) (by rw [List.length_map]; omega)
  rw [filter_am ad q l (fun x hx e => h.2 _ _ (hl x hx) hq e)] at a2
  obtain ⟨b1, b2⟩ := bfr_F a5 (h.kd hA hl) hp.1
  exact ⟨F', a1, a2, a3, a4, b1, b2⟩
theorem xA.fr (hA : xA T F c nW w) (h : ∀ a, kd T a ≠ some 1 → F' a = F a) : xA T F' c nW w := by
  obtain ⟨x1, x2, x3, x4, x5, x6, x7, x8⟩ := hA
  have e1 := h (c + 1) (by rw [x1]; decide)
  exact ⟨x1, x2, x3, x4, x5, by rw [e1]; exact x6, by rw [e1]; exact x7, by rw [h (c + 2) (by rw [x2]; decide)]; exact x8⟩
theorem INV.chL (h : INV T F nx c nW nJ st fi ar ad da bl ql) : chL T c ad (fun q => cod q ∧ ar 4 (jb q) ≠ 0) := by
  obtain ⟨hT, hF, hM, hX⟩ := h
  exact ⟨fun q hq => ⟨(hX.bk hq.1 hq.2).1, (hX.bk hq.1 hq.2).2.1⟩, fun q q' h1 h2 e => hX.ib h1.1 h1.2 h2.1 h2.2 e⟩
theorem len_filter (p : Nat × Nat × Nat → Bool) (l : bL) (h : l.length ≤ 3000) : (l.filter p).length ≤ 3000 := by
  have := List.length_filter_le p l
  omega
theorem nd_filter (p : Nat × Nat × Nat → Bool) : ∀ {l : bL}, (l.map (fun x => x.1)).Nodup → ((l.filter p).map (fun x => x.1)).Nodup
  | [], _ => List.nodup_nil
  | x :: l, h => by
    rw [List.map_cons, List.nodup_cons] at h
    rw [List.filter_cons]
    split
    · rw [List.map_cons, List.nodup_cons]
      refine ⟨fun hm => h.1 ?_, nd_filter p h.2⟩
      obtain ⟨y, hy, e⟩ := List.mem_map.mp hm
      exact List.mem_map.mpr ⟨y, (List.mem_filter.mp hy).1, e⟩
    · exact nd_filter p h.2
theorem op_close (h : INV T F nx c nW nJ st fi ar ad da bl ql) (hfu : 3001 < fu) (x : Int32) : ∃ r S1 S2, fX9_close fu (mkS T F nx) c x = some (r, S1) ∧ fX10_close fu S1 (c + 6) x = some (r, S2) ∧ OUT c nW nJ st S2 := by
  obtain ⟨hT, hF, hM, hX⟩ := id h
  obtain ⟨hA, kc, s3, s4, s5, s6, s7, s8, s9, s10, s11, s12, k5⟩ := id hX.1
  have f1 := hM.1.2.1
  have hJ := hM.1.2.2.2.1
  have hQ := hM.2.2.2.2.2.2
  have hB := hM.2.2.2.1
  have hs := hM.2.2.2.2.2.1
  rcases jcase nJ ar x with hb | ⟨j, hjJ, rfl, hl⟩
  · refine ⟨-1, mkS T F nx, mkS T F nx, ?_, ?_, OUT.same h (Nat.le_refl _)⟩
    · simp only [fX9_close, rcv_mk kc, x_find0 hX hJ hb, Option.bind_some, bn2_s, zz_0, zz_1, if_true, if_false, ite_true, ite_false, vI_i, vR_n, vR_r, vR_v, reduceCtorEq]
    · rw [h.w]
      simp only [fX10_close, rcv_m hT, m_isJob0 hT f1 hJ hb, Option.bind_some, bn2_s, zz_0, zz_1, if_true, if_false, ite_true, ite_false, vI_i, vR_n, vR_r, vR_v, reduceCtorEq]
  · have hj : j < 24 := by omega
    have hL := (hX.2.2.2.1 j).2.1 hl
    have jl := hL.2.1
    have e5 : F (ad (200 + j)) 5 = .int (ar 4 j) := hL.2.2.2.1 5 (by omega)
    by_cases cs : ar 4 j = 2
    · refine ⟨-3, mkS T F nx, mkS T F nx, ?_, ?_, OUT.same h (Nat.le_refl _)⟩
      · simp only [fX9_close, rcv_mk kc, x_find1 hX hJ hjJ hl, gI_mk hL.1, e5, cs, Option.bind_some, bn2_s, zz_0, zz_1, if_true, if_false, ite_true, ite_false, vI_i, vR_n, vR_r, vR_v, reduceCtorEq]
      · rw [h.w]
        simp +decide only [fX10_close, Option.bind_some, bn2_s, zz_0, zz_1, if_true, if_false, ite_true, ite_false, vI_i, vR_n, vR_r, vR_v, reduceCtorEq, gI_m hT, gR_m hT, rcv_m hT, pV_m hT, aI_24 hT, sV_24 hT, aI_3 hT, sV_3 hT, aI_18 hT, sV_18 hT, aI_19 hT, sV_19 hT, aI_mZ hT, sV_mZ hT, ui_s, ui_n, ua_s, ua_k, m_isJob1 hT f1 hJ hjJ hl, hj, cs]
    · have hC := h.chL
      have hlD : ∀ x ∈ bl, cod x.1 ∧ ar 4 (jb x.1) ≠ 0 := fun x hx => ⟨(hB.1 x hx).1, (hB.1 x hx).2.1⟩
      have hlen : bl.length ≤ 3000 := by have := srt_len hs; have := hM.1.2.2.2.2.2.1; omega
      have hnd := mB_nd hB hM.1.2.2.2.2.2.1 hs
      obtain ⟨F1, a1, a2, a3, a4, a5, a6⟩ := x_gb (fu := fu) (nx := nx) hC hA (q := j) ⟨cod_j hj, by rw [jb_j j hj]; exact hl⟩ hlD hnd hlen hfu hX.2.1
      obtain ⟨F2, b1, b2, b3, b4, b5, b6⟩ := x_gb (fu := fu) (nx := nx) hC (hA.fr a5) (q := 100 + j) ⟨cod_1 hj, by rw [jb_1]; exact hl⟩ (fun x hx => hlD x (List.mem_filter.mp hx).1) (nd_filter _ hnd) (len_filter _ _ hlen) hfu a2
      have nk : ∀ {q k : Nat}, kd T q = some k → k ≠ 1 → kd T q ≠ some 1 := fun h1 h2 => by rw [h1]; intro z; injection z with z; omega
      have F2n : ∀ q, kd T q ≠ some 1 → F2 q = F q := fun q hq => by rw [b5 q hq, a5 q hq]
      generalize hF3 : u2 F2 (c + 4) j .null = F3
      have F3q : ∀ q, q ≠ c + 4 → F3 q = F2 q := fun q hq => by rw [← hF3, u2_q hq]
      have F3n : ∀ q, q ≠ c + 4 → kd T q ≠ some 1 → F3 q = F q := fun q h1 h2 => by rw [F3q q h1, F2n q h2]
      have F34 : ∀ k, k ≠ j → F3 (c + 4) k = F (c + 4) k := fun k hk => by rw [← hF3, u2_k hk, F2n _ (nk s11 (by decide))]
      have hmk : ∀ q, c + 6 ≤ q → q < c + 21 → kd T q ≠ some 1 := by
        intro q q1 q2
        by_cases e : q = c + 6
        · rw [e, mT_z hT]; decide
        · have : ∃ k, mo k ≠ 0 ∧ q = c + 6 + mo k := by
            have : q = c + 6 + 1 ∨ q = c + 6 + 2 ∨ q = c + 6 + 3 ∨ q = c + 6 + 4 ∨ q = c + 6 + 5 ∨ q = c + 6 + 6 ∨ q = c + 6 + 7 ∨ q = c + 6 + 8 ∨ q = c + 6 + 9 ∨ q = c + 6 + 10 ∨ q = c + 6 + 11 ∨ q = c + 6 + 12 ∨ q = c + 6 + 13 ∨ q = c + 6 + 14 := by omega
            rcases this with h | h | h | h | h | h | h | h | h | h | h | h | h | h
            · exact ⟨4, by decide, h⟩
            · exact ⟨5, by decide, h⟩
            · exact ⟨6, by decide, h⟩
            · exact ⟨7, by decide, h⟩
            · exact ⟨8, by decide, h⟩
            · exact ⟨9, by decide, h⟩
            · exact ⟨10, by decide, h⟩
            · exact ⟨11, by decide, h⟩
            · exact ⟨12, by decide, h⟩
            · exact ⟨13, by decide, h⟩
            · exact ⟨14, by decide, h⟩
            · exact ⟨18, by decide, h⟩
            · exact ⟨19, by decide, h⟩
            · exact ⟨3, by decide, h⟩
          obtain ⟨k, hk, rfl⟩ := this
          rw [mT_k hT hk]
          unfold mkind
          split <;> decide
      have hw : mF F3 (c + 6) fi ar = F3 := mF_keep hF (fun q q1 q2 => F3n q (by omega) (hmk q q1 (by omega)))
      have g4 : ∀ k, k ≠ j → ua ar 4 j 0 4 k = ar 4 k := fun k hk => ua_j _ _ _ _ hk
      have gn : ∀ k, k ≠ 4 → ua ar 4 j 0 k = ar k := fun k hk => by funext q; exact ua_k _ _ _ _ hk
      have eb : ∀ q, bOf (ua ar 4 j 0) q = bOf ar q := fun q => by unfold bOf; rw [gn 9 (by decide), gn 10 (by decide)]
      have ez : ∀ q, zOf (ua ar 4 j 0) q = zOf ar q := zOf_c (gn 5 (by decide)) (gn 6 (by decide))
      have hjq : j ∉ ql := fun z => cs ((hQ.2.1 j).mp z)
      have hM' : MI nW nJ st fi (ua ar 4 j 0) ((bl.filter (fun x => !(x.1 == j))).filter (fun x => !(x.1 == 100 + j))) ql := by
        refine ⟨hM.1, fun k hk => by rw [g4 k (by omega)]; exact hM.2.1 k hk, fun k hk => ?_, ⟨fun x hx => ?_, fun q hq hq2 => ?_⟩, fun q hq hq2 => ?_, srt_filter _ (srt_filter _ hs), hQ.keep cs g4 (by rw [ua_s]; decide) (fun k hk => ua_j _ _ _ _ hk) (fun k hk => ua_j _ _ _ _ hk)⟩
        · have hkj : k ≠ j := fun e => hk (by rw [e, ua_s])
          rw [g4 k hkj] at hk
          obtain ⟨s, n, wy, p, n1, n2, n3, n4, n5, n6, n7, n8⟩ := hM.2.2.1 k hk
          exact ⟨s, n, wy, p, by rw [g4 k hkj]; exact n1, n2, by rw [gn 5 (by decide)]; exact n3, n4, by rw [gn 6 (by decide)]; exact n5, n6, by rw [gn 7 (by decide)]; exact n7, n8⟩
        · have h1 := (List.mem_filter.mp hx).2
          have h2 := (List.mem_filter.mp (List.mem_filter.mp hx).1).2
          have h3 := (List.mem_filter.mp (List.mem_filter.mp hx).1).1
          obtain ⟨c1, c2, c3, c4, c5, c6⟩ := hB.1 x h3
          have hjb : jb x.1 ≠ j := by
            simp at h1 h2
            rcases cod_cs c1 with e | e <;> omega
          exact ⟨c1, by rw [g4 _ hjb]; exact c2, by rw [eb]; exact c3, by rw [ez]; exact c4, c5, c6⟩
        · have hjb : jb q ≠ j := fun e => hq2 (by rw [e, ua_s])
          rw [g4 _ hjb] at hq2
          rw [eb]
          rcases hB.2 q hq hq2 with z | ⟨f, s, z⟩
          · exact Or.inl z
          · refine Or.inr ⟨f, s, List.mem_filter.mpr ⟨List.mem_filter.mpr ⟨z, ?_⟩, ?_⟩⟩
            · have : q ≠ j := fun e => hjb (by rw [e]; exact jb_j j hj)
              simp [this]
            · have : q ≠ 100 + j := fun e => hjb (by rw [e]; exact jb_1 j)
              simp [this]
        · have hjb : jb q ≠ j := fun e => hq2 (by rw [e, ua_s])
          rw [g4 _ hjb] at hq2
          rw [eb, ez]; exact hM.2.2.2.2.1 q hq hq2
      refine ⟨0, mkS T F3 nx, mw T F3 nx (c + 6) fi (ua ar 4 j 0), ?_, ?_, ?_⟩
      · have j2 : F (ad (200 + j)) 2 = .ref (ad j) := hL.2.2.2.1 2 (by omega)
        have j3 : F1 (ad (200 + j)) 3 = .ref (ad (100 + j)) := by rw [a5 _ (nk hL.1 (by decide))]; exact hL.2.2.2.1 3 (by omega)
        have c0 : F1 c 0 = .ref (c + 1) := by rw [a5 _ (nk kc (by decide))]; exact s3
        have c1 : F2 c 1 = .ref (c + 4) := by rw [F2n _ (nk kc (by decide))]; exact s4
        have sr := sR_mkN (F := F2) (nx := nx) s11 (i := j) (by omega) (by omega)
        simp +decide only [fX9_close, rcv_mk kc, x_find1 hX hJ hjJ hl, gI_mk hL.1, e5, cs, gR_mk kc, s3, gR_mk hL.1, j2, rcv_mk hA.1, a1, c0, j3, b1, c1, sr, hF3, Option.bind_some, bn2_s, zz_0, zz_1, if_true, if_false, ite_true, ite_false, vI_i, vR_n, vR_r, vR_v, reduceCtorEq]
      · rw [show mkS T F3 nx = mw T F3 nx (c + 6) fi ar by show _ = mkS T _ nx; rw [hw]]
        simp +decide only [fX10_close, Option.bind_some, bn2_s, zz_0, zz_1, if_true, if_false, ite_true, ite_false, vI_i, vR_n, vR_r, vR_v, reduceCtorEq, gI_m hT, gR_m hT, rcv_m hT, pV_m hT, aI_24 hT, sV_24 hT, aI_3 hT, sV_3 hT, aI_18 hT, sV_18 hT, aI_19 hT, sV_19 hT, aI_mZ hT, sV_mZ hT, ui_s, ui_n, ua_s, ua_k, m_isJob1 hT f1 hJ hjJ hl, hj, cs]
      · refine ⟨T, _, nx, fi, _, ad, da, _, ql, st, Nat.le_refl _, rfl, INV.mk hT hM' ?_⟩
        refine hX.blk (j := j) hM (fun _ _ z => z) hX.2.2.2.2.1 hX.2.2.2.2.2 ?_ ?_ hjq (fun _ _ _ _ _ => rfl) (fun _ _ _ => rfl) (fun q hq => F3n q (fun e => by rw [e, s11] at hq; exact absurd hq (by decide)) (nk hq (by decide))) (fun q K hq hK => F3n q (fun e => by rw [e, s11] at hq; injection hq with hq; omega) (nk hq (by omega))) (F3n _ (by omega) (nk k5 (by decide))) F34 (fun i hi hil q hq k hk => ?_) (fun k hk => by rw [g4 k (by omega)]; exact hM.2.1 k hk) (fun k hk m m1 _ => ua_j _ _ _ _ hk) (fun k _ t _ => ua_k _ _ _ _ (by decide)) (fun k hk k2 k6 bf b1 b2 t ht => by rw [gn 3 (by decide)]) ?_
        · have ec := F3n c (by omega) (nk kc (by decide))
          have k3 := hA.2.2.2.2.1
          refine hX.1.cg (fun k _ => by rw [ec]) (by rw [ec]; exact s7) (by rw [ec]; exact s8) (F3n _ (by omega) (nk hA.1 (by decide))) (fun k hk => ?_) (by rw [F3n _ (by omega) (nk hA.2.1 (by decide)), gn 3 (by decide)]; exact hA.2.2.2.2.2.2.2) rfl
          have q1 := (hC.1 j ⟨cod_j hj, by rw [jb_j j hj]; exact hl⟩).2
          have q2 := (hC.1 (100 + j) ⟨cod_1 hj, by rw [jb_1]; exact hl⟩).2
          rw [F3q _ (by omega), b6 _ (by omega) k (by omega), a6 _ (by omega) k (by omega)]
        · exact bch_congr b2 (by rw [F3q _ (by omega)]) (fun q hq f _ => by
            rw [F3q q (fun e => by
              have := bch_kd b2 q hq
              rw [e, s11] at this; exact absurd this (by decide))])
        · have hi24 := hM.lt24 hil
          have hLi := (hX.2.2.2.1 i).2.1 hil
          obtain ⟨v1, v2, v3, v4, v5⟩ := hLi.2.2.2.2 q hq
          have hcq : cod q ∧ jb q = i := by
            rcases hq with e | e
            · rw [e]; exact ⟨cod_j hi24, jb_j i hi24⟩
            · rw [e]; exact ⟨cod_1 hi24, jb_1 i⟩
          have dj : ad q ≠ ad j := fun e => by
            have := hX.ib hcq.1 (by rw [hcq.2]; exact hil) (cod_j hj) (by rw [jb_j j hj]; exact hl) e
            rcases hq with e2 | e2 <;> omega
          have dj1 : ad q ≠ ad (100 + j) := fun e => by
            have := hX.ib hcq.1 (by rw [hcq.2]; exact hil) (cod_1 hj) (by rw [jb_1]; exact hl) e
            rcases hq with e2 | e2 <;> omega
          rw [F3q _ (by omega), b6 _ dj1 k (by omega), a6 _ dj k (by omega)]
        · refine ⟨fun _ => ?_, fun z => absurd (ua_s _ _ _ _) z, fun z => by rw [ua_s] at z; exact absurd z (by decide)⟩
          rw [ua_s, if_pos rfl, ← hF3, u2_s]
end BK
