section RZ
variable {T : Nat → Option (Nat × Nat)} {F F' : Nat → Nat → Value} {nx c nW nJ st fu n m wy j : Nat} {fi : Nat → Int32} {ar ar' arK : Nat → Nat → Int32} {ad da : Nat → Nat} {bl bl' : bL} {ql : List Nat} {v1 v2 x3 : Int32}
theorem MI.en0 (hM : MI nW nJ st fi ar bl ql) (hl : ar 4 j ≠ 0) (h5 : ar 5 j = nI n) (hn : n ≤ 1000) : ent bl j n (ar 9 j) := by
  have hj := hM.lt24 hl
  have hW := hM.1.2.2.2.2.2.1
  by_cases c : n = 0
  · have e : ar 9 j = -1 := by
      have := (hM.2.2.2.2.1 j (cod_j hj) (by rw [jb_j j hj]; exact hl)).mpr (by rw [zOf_j _ hj, h5, c]; rfl)
      rw [bOf_j _ hj] at this; exact this
    exact Or.inl ⟨c, e, mB_nin hM.2.2.2.1 hW (by rw [bOf_j _ hj]; exact e)⟩
  · obtain ⟨f, c1, c2, c3⟩ := hM.cell hl h5 hn (by omega)
    exact Or.inr ⟨by omega, f, c1, by omega, c3⟩
theorem MI.en1 (hM : MI nW nJ st fi ar bl ql) (hl : ar 4 j ≠ 0) (h5 : ar 5 j = nI n) (h6 : ar 6 j = nI wy) (hwy : wy ≤ 4) (hn : n ≤ 1000) : ent bl (100 + j) (bz wy n) (ar 10 j) := by
  have hj := hM.lt24 hl
  have hW := hM.1.2.2.2.2.2.1
  by_cases c : bz wy n = 0
  · have e : ar 10 j = -1 := by
      have := (hM.2.2.2.2.1 (100 + j) (cod_1 hj) (by rw [jb_1]; exact hl)).mpr (by rw [zOf_1, bsz_z h5 h6 hwy, c]; rfl)
      rw [bOf_1] at this; exact this
    exact Or.inl ⟨c, e, mB_nin hM.2.2.2.1 hW (by rw [bOf_1]; exact e)⟩
  · obtain ⟨f, c1, c2, c3⟩ := hM.buf hl h5 h6 hwy hn (by omega)
    exact Or.inr ⟨by omega, f, c1, by omega, c3⟩
theorem resize_no (h : INV T F nx c nW nJ st fi ar ad da bl ql) (hjJ : j < nJ) (cs : ar 4 j = 1) (hb : bch T F' (c + 3) (bl.map (am ad))) (hn1 : ∀ a, kd T a ≠ some 1 → F' a = F a) (hf1 : ∀ a, kd T a = some 1 → ∀ f, f ≤ 1 → F' a f = F a f) (hr : ∀ k, k ≠ 18 → ar' k = ar k) : mF F' (c + 6) fi ar = F' ∧ OUT c nW nJ st (mw T F' nx (c + 6) fi ar') := by
  obtain ⟨hT, hF, hM, hX⟩ := id h
  obtain ⟨hA, kc, s3, s4, s5, s6, s7, s8, s9, s10, s11, s12, k5⟩ := id hX.1
  have hQ := hM.2.2.2.2.2.2
  have hJ := hM.1.2.2.2.1
  have hl : ar 4 j ≠ 0 := by rw [cs]; decide
  have hj : j < 24 := by omega
  have hL := (hX.2.2.2.1 j).2.1 hl
  have nk : ∀ {q k : Nat}, kd T q = some k → k ≠ 1 → F' q = F q := fun h1 h2 => hn1 _ (by rw [h1]; intro z; injection z with z; omega)
  refine ⟨mF_keep hF (fun q q1 q2 => hn1 q (mT_n1 hT q1 (by omega))), ?_⟩
  have hM' : MI nW nJ st fi ar' bl ql := hM.cg hM.1 (fun k k1 k2 => hr k (by omega))
  have hjq : j ∉ ql := fun z => by rw [(hQ.2.1 j).mp z] at cs; exact absurd cs (by decide)
  refine ⟨T, _, nx, fi, ar', ad, da, bl, ql, st, Nat.le_refl _, rfl, INV.mk hT hM' ?_⟩
  refine hX.blk (j := j) hM (fun _ _ z => z) hX.2.2.2.2.1 hX.2.2.2.2.2 ?_ hb hjq (fun _ _ _ _ _ => rfl) (fun _ _ _ => rfl) (fun q hq => nk hq (by decide)) (fun q K hq hK => nk hq (by omega)) (nk k5 (by decide)) (fun i _ => by rw [nk s11 (by decide)]) (fun i hi hil q hq k hk => ?_) (fun k hk => by rw [hr 4 (by decide)]; exact hM.2.1 k hk) (fun i hi k k1 k2 => by rw [hr k (by omega)]) (fun i hi t _ => by rw [hr 19 (by decide)]) (fun _ _ _ _ _ _ _ _ _ => by rw [hr 3 (by decide)]) ?_
  · have ec := nk kc (by decide)
    exact hX.1.cg (fun k _ => by rw [ec]) (by rw [ec]; exact s7) (by rw [ec]; exact s8) (nk hA.1 (by decide)) (fun k hk => hf1 _ hA.2.2.2.2.1 k hk) (by rw [nk hA.2.1 (by decide), hr 3 (by decide)]; exact hA.2.2.2.2.2.2.2) rfl
  · exact hf1 _ (((hX.2.2.2.1 i).2.1 hil).2.2.2.2 q hq).1 k hk
  · refine ⟨fun z => ?_, fun z => ?_, fun z => by rw [hr 4 (by decide), cs] at z; exact absurd z (by decide)⟩
    · rw [nk s11 (by decide), hr 4 (by decide)]; exact (hX.2.2.2.1 j).1 z
    · exact hL.cg hj (fun _ _ z => z) (fun k k1 k2 => by rw [hr k (by omega)]) (fun _ _ => rfl) (fun _ _ => rfl) (fun k _ => by rw [nk hL.1 (by decide)]) (fun q hq k hk => hf1 _ (hL.2.2.2.2 q hq).1 k hk)
theorem resize_ok (h : INV T F nx c nW nJ st fi ar ad da bl ql) (hfu : 3001 < fu) (hjJ : j < nJ) (cs : ar 4 j = 1) (hm : m ≤ 1000) {f : Nat} (h5 : ar 5 j = nI n) (hn : n ≤ 1000) (h6 : ar 6 j = nI wy) (hwy : wy ≤ 4) (hv : n ≠ 0 → ar 9 j = nI f ∧ f + n ≤ nW) (hr : ∀ k, k ≠ 18 → arK k = ar k) (hK : ∀ q, q < n → arK 18 q = ar 3 (f + q))
    (hB : mB (ua (ua (ua arK 5 j (nI m)) 9 j v1) 10 j v2) nW bl') (hs : srt nW 0 bl') (hz1 : v1 = -1 ↔ m = 0) (hz2 : v2 = -1 ↔ bz wy m = 0) (he : m ≠ 0 → ∃ e, v1 = nI e ∧ e + m ≤ nW ∧ (j, e, m) ∈ bl')
    (hb : bch T F' (c + 3) (bl'.map (am ad))) (p0 : F' (ad j) 0 = .int v1) (p1 : F' (ad j) 1 = .int (nI m)) (q0 : F' (ad (100 + j)) 0 = .int v2) (q1 : F' (ad (100 + j)) 1 = .int (nI (bz wy m))) (hn1 : ∀ a, kd T a ≠ some 1 → F' a = F a) (hf1 : ∀ a, a ≠ ad j → a ≠ ad (100 + j) → ∀ f, f ≠ 2 → F' a f = F a f) :
    ∃ F6 S2, fX9_exchangeBlocks_92 fu (mkS T F' nx) c (some (ad (200 + j))) (nI m) x3 (ar 9 j) (ar 10 j) (nI n) 1 = some (1, mkS T F6 nx) ∧ mF F6 (c + 6) fi ar = F6 ∧ fX10_resize_151 fu fu (mw T F6 nx (c + 6) fi (ua (ua (ua arK 5 j (nI m)) 9 j v1) 10 j v2)) (c + 6) (nI j) (nI m) (nI n) 0 = some (0, S2) ∧ OUT c nW nJ st S2 := by
  obtain ⟨hT, hF, hM, hX⟩ := id h
  obtain ⟨hA, kc, s3, s4, s5, s6, s7, s8, s9, s10, s11, s12, k5⟩ := id hX.1
  have hQ := hM.2.2.2.2.2.2
  have hJ := hM.1.2.2.2.1
  have hl : ar 4 j ≠ 0 := by rw [cs]; decide
  have hj : j < 24 := by omega
  have hL := (hX.2.2.2.1 j).2.1 hl
  have jl := hL.2.1
  obtain ⟨s, n', wy', p, g1, g2, g3, g4, g5, g6, g7, g8⟩ := hM.2.2.1 j hl
  have kd1 : ∀ {q k : Nat}, kd T q = some k → k ≠ 1 → kd T q ≠ some 1 := fun h1 h2 => by rw [h1]; intro z; injection z with z; omega
  have nk : ∀ {q k : Nat}, kd T q = some k → k ≠ 1 → F' q = F q := fun h1 h2 => hn1 _ (kd1 h1 h2)
  obtain ⟨e, he1⟩ : ∃ e, m ≠ 0 → v1 = nI e ∧ e + m ≤ nW ∧ (j, e, m) ∈ bl' := by
    by_cases cm : m = 0
    · exact ⟨0, fun z => absurd cm z⟩
    · obtain ⟨e, he⟩ := he cm
      exact ⟨e, fun _ => he⟩
  have hA' : xA T F' c nW (ar 3) := hA.fr hn1
  obtain ⟨b1, b2, b3, _, _⟩ := hL.2.2.2.2 j (Or.inl rfl)
  obtain ⟨d1, d2, d3, _, _⟩ := hL.2.2.2.2 (100 + j) (Or.inr rfl)
  have xr := x_rz (fu := fu) (nx := nx) (ja := ad (200 + j)) (ca := ad j) (n := n) (m := m) (f := f) (e := e) (v := ar 9 j) (v1 := v1) (bv := ar 10 j) (x3 := x3) hA' kc (by rw [nk kc (by decide)]; exact s3) hL.1 (by rw [nk hL.1 (by decide)]; exact hL.2.2.2.1 2 (by omega)) b1 p0 (fun z => ⟨(he1 z).1, (he1 z).2.1⟩) hv hn hm hfu
  have r3 : ua (ua (ua arK 5 j (nI m)) 9 j v1) 10 j v2 3 = ar 3 := by funext q; rw [ua_k _ _ _ _ (by decide), ua_k _ _ _ _ (by decide), ua_k _ _ _ _ (by decide), hr 3 (by decide)]
  have mr := m_rz (fu := fu) (T := T) (G := wF F' c (rzW (ar 3) f e n m)) (nx := nx) (z := c + 6) (fi := fi) (ar := ua (ua (ua arK 5 j (nI m)) 9 j v1) 10 j v2) (w0 := ar 3) (e := e) (m := m) (n := n) (f := f) hT hj (fun z => ⟨by rw [ua_k _ _ _ _ (by decide), ua_s]; exact (he1 z).1, (he1 z).2.1⟩) (fun q hq => by rw [ua_k _ _ _ _ (by decide), ua_k _ _ _ _ (by decide), ua_k _ _ _ _ (by decide)]; exact hK q hq) hn hm m fu 0 (ar 3) (by omega) (by omega)
  rw [show aw (ua (ua (ua arK 5 j (nI m)) 9 j v1) 10 j v2) (ar 3) = ua (ua (ua arK 5 j (nI m)) 9 j v1) 10 j v2 by rw [← r3]; exact aw_self _] at mr
  have wn : ∀ q, q ≠ c + 2 → wF F' c (rzW (ar 3) f e n m) q = F' q := fun q hq => wF_n hq
  refine ⟨wF F' c (rzW (ar 3) f e n m), mw T (wF F' c (rzW (ar 3) f e n m)) nx (c + 6) fi (aw (ua (ua (ua arK 5 j (nI m)) 9 j v1) 10 j v2) (rzW (ar 3) f e n m)), xr, mF_keep hF (fun q a1 a2 => by rw [wn q (by omega)]; exact hn1 q (mT_n1 hT a1 (by omega))), mr, ?_⟩
  generalize hE : aw (ua (ua (ua arK 5 j (nI m)) 9 j v1) 10 j v2) (rzW (ar 3) f e n m) = ar5
  have t3' : ar5 3 = rzW (ar 3) f e n m := by rw [← hE, aw_3]
  have tj : ∀ k i, i ≠ j → k ≠ 3 → k ≠ 18 → ar5 k i = ar k i := fun k i h1 h2 h3 => by rw [← hE, aw_n _ _ h2, ua_j _ _ _ _ h1, ua_j _ _ _ _ h1, ua_j _ _ _ _ h1, hr k h3]
  have tn : ∀ k, k ≠ 3 → k ≠ 5 → k ≠ 9 → k ≠ 10 → k ≠ 18 → ar5 k = ar k := fun k h1 h2 h3 h4 h5 => by funext i; rw [← hE, aw_n _ _ h1, ua_k _ _ _ _ h4, ua_k _ _ _ _ h3, ua_k _ _ _ _ h2, hr k h5]
  have t5 : ar5 5 j = nI m := by rw [← hE, aw_n _ _ (by decide), ua_k _ _ _ _ (by decide), ua_k _ _ _ _ (by decide), ua_s]
  have t9 : ar5 9 j = v1 := by rw [← hE, aw_n _ _ (by decide), ua_k _ _ _ _ (by decide), ua_s]
  have t10 : ar5 10 j = v2 := by rw [← hE, aw_n _ _ (by decide), ua_s]
  have t4 := tn 4 (by decide) (by decide) (by decide) (by decide) (by decide)
  have t6 := tn 6 (by decide) (by decide) (by decide) (by decide) (by decide)
  have t7 := tn 7 (by decide) (by decide) (by decide) (by decide) (by decide)
  have hbz : bsz ar5 j = nI (bz wy m) := bsz_z t5 (by rw [t6]; exact h6) hwy
  have hM' : MI nW nJ st fi ar5 bl' ql := by
    refine ⟨hM.1, fun k hk => by rw [t4]; exact hM.2.1 k hk, fun k hk => ?_, ?_, fun q hq hq2 => ?_, hs, hQ.cg t4 t7 (tn 11 (by decide) (by decide) (by decide) (by decide) (by decide))⟩
    · rw [t4] at hk
      by_cases ek : k = j
      · rw [ek]
        exact ⟨s, m, wy, p, by rw [t4]; exact g1, g2, t5, hm, by rw [t6]; exact h6, hwy, by rw [t7]; exact g7, g8⟩
      · obtain ⟨s, n, wy, p, n1, n2, n3, n4, n5, n6, n7, n8⟩ := hM.2.2.1 k hk
        exact ⟨s, n, wy, p, by rw [t4]; exact n1, n2, by rw [tj 5 k ek (by decide) (by decide)]; exact n3, n4, by rw [t6]; exact n5, n6, by rw [t7]; exact n7, n8⟩
    · rw [← hE]
      exact mB_congr hB (aw_n _ _ (by decide)) (aw_n _ _ (by decide)) (aw_n _ _ (by decide)) (aw_n _ _ (by decide)) (aw_n _ _ (by decide))
    · rw [t4] at hq2
      by_cases hjb : jb q = j
      · rcases cod_cs hq with ⟨w1, w2⟩ | ⟨w1, w2⟩
        · rw [w1, hjb, bOf_j _ hj, zOf_j _ hj, t9, t5]
          refine hz1.trans ⟨fun z => by rw [z]; rfl, fun z => ?_⟩
          by_cases cn : m = 0
          · exact cn
          · exact absurd z (nI_ne0 (by omega) (by omega))
        · rw [w1, hjb, bOf_1, zOf_1, hbz, t10]
          refine hz2.trans ⟨fun z => by rw [z]; rfl, fun z => ?_⟩
          by_cases cn : bz wy m = 0
          · exact cn
          · exact absurd z (nI_ne0 (by omega) (by have := bz_le (wy := wy) hm; omega))
      · have hz := hM.2.2.2.2.1 q hq hq2
        rcases cod_cs hq with ⟨w1, w2⟩ | ⟨w1, w2⟩
        · rw [w1, bOf_j _ w2, zOf_j _ w2] at hz ⊢; rw [tj 9 _ hjb (by decide) (by decide), tj 5 _ hjb (by decide) (by decide)]; exact hz
        · rw [w1, bOf_1, zOf_1] at hz ⊢; unfold bsz at hz ⊢; rw [tj 10 _ hjb (by decide) (by decide), t6, tj 5 _ hjb (by decide) (by decide)]; exact hz
  have hjq : j ∉ ql := fun z => by rw [(hQ.2.1 j).mp z] at cs; exact absurd cs (by decide)
  have ne2 : ∀ {q k : Nat}, kd T q = some k → k ≠ 10 → q ≠ c + 2 := fun h1 h2 e => by rw [e, hA.2.1] at h1; injection h1 with h1; omega
  have nk2 : ∀ {q k : Nat}, kd T q = some k → k ≠ 1 → k ≠ 10 → wF F' c (rzW (ar 3) f e n m) q = F q := fun h1 h2 h3 => by rw [wn _ (ne2 h1 h3)]; exact nk h1 h2
  refine ⟨T, _, nx, fi, ar5, ad, da, bl', ql, st, Nat.le_refl _, rfl, INV.mk hT hM' ?_⟩
  refine hX.blk (j := j) hM (fun _ _ z => z) hX.2.2.2.2.1 hX.2.2.2.2.2 ?_ ?_ hjq (fun _ _ _ _ _ => rfl) (fun _ _ _ => rfl) (fun q hq => nk2 hq (by decide) (by decide)) (fun q K hq hK => nk2 hq (by omega) (by omega)) (nk2 k5 (by decide) (by decide)) (fun i _ => by rw [nk2 s11 (by decide) (by decide)]) (fun i hi hil q hq k hk => ?_) (fun k hk => by rw [t4]; exact hM.2.1 k hk) (fun i hi k k1 k2 => tj k i hi (by omega) (by omega)) (fun i hi t _ => by rw [tn 19 (by decide) (by decide) (by decide) (by decide) (by decide)]) (fun i hi i2 i6 bf w1 w2 t ht => ?_) ?_
  · have ec := nk2 kc (by decide) (by decide)
    refine hX.1.cg (fun k _ => by rw [ec]) (by rw [ec]; exact s7) (by rw [ec]; exact s8) (nk2 hA.1 (by decide) (by decide)) (fun k hk => ?_) (by rw [wF_s, t3']) rfl
    rw [wn _ (by omega), hf1 _ (by omega) (by omega) k (by omega)]
  · refine bch_congr hb (by rw [wn _ (by omega)]) (fun q hq g _ => ?_)
    rw [wn q (ne2 (bch_kd hb q hq) (by decide))]
  · have hi24 := hM.lt24 hil
    obtain ⟨w1, w2, w3, w4, w5⟩ := ((hX.2.2.2.1 i).2.1 hil).2.2.2.2 q hq
    have hcq : cod q ∧ jb q = i := by
      rcases hq with e | e
      · rw [e]; exact ⟨cod_j hi24, jb_j i hi24⟩
      · rw [e]; exact ⟨cod_1 hi24, jb_1 i⟩
    have dj : ad q ≠ ad j := fun e => by
      have := hX.ib hcq.1 (by rw [hcq.2]; exact hil) (cod_j hj) (by rw [jb_j j hj]; exact hl) e
      rcases hq with e2 | e2 <;> omega
    have dj1 : ad q ≠ ad (100 + j) := fun e => by
      have := hX.ib hcq.1 (by rw [hcq.2]; exact hil) (cod_1 hj) (by rw [jb_1]; exact hl) e
      rcases hq with e2 | e2 <;> omega
    rw [wn _ (by omega), hf1 _ dj dj1 k (by omega)]
  · rw [t3']
    unfold rzW
    by_cases c1 : e ≤ bf + t ∧ bf + t < e + m
    · have he2 := he1 (by omega)
      have := hM'.wd (i := i) he2.2.2 (by omega) (by rw [t4, i2]; decide) (by rw [t6]; exact i6) w1 (by rw [tj 10 i hi (by decide) (by decide)]; exact w2)
      omega
    · rw [if_neg c1]
  · refine ⟨fun z => ?_, fun z => ?_, fun z => by rw [t4, cs] at z; exact absurd z (by decide)⟩
    · rw [nk2 s11 (by decide) (by decide), t4]; exact (hX.2.2.2.1 j).1 z
    · refine ⟨hL.1, hL.2.1, hL.2.2.1, fun k hk => ?_, fun q hq => ?_⟩
      · rw [nk2 hL.1 (by decide) (by decide), hL.2.2.2.1 k hk]
        have : k = 0 ∨ k = 1 ∨ k = 2 ∨ k = 3 ∨ k = 4 ∨ k = 5 ∨ k = 6 ∨ k = 7 ∨ k = 8 := by omega
        rcases this with rfl | rfl | rfl | rfl | rfl | rfl | rfl | rfl | rfl <;> simp [jv, t4, t6, t7, tn 8 (by decide) (by decide) (by decide) (by decide) (by decide), tn 12 (by decide) (by decide) (by decide) (by decide) (by decide), tn 13 (by decide) (by decide) (by decide) (by decide) (by decide)]
      · rcases hq with rfl | rfl
        · rw [wn _ (ne2 b1 (by decide)), bOf_j _ hj, zOf_j _ hj, t9, t5]; exact ⟨b1, b2, b3, p0, p1⟩
        · rw [wn _ (ne2 d1 (by decide)), bOf_1, zOf_1, hbz, t10]; exact ⟨d1, d2, d3, q0, q1⟩
theorem op_resize (h : INV T F nx c nW nJ st fi ar ad da bl ql) (hfu : 3001 < fu) (x y : Int32) : ∃ r S1 S2, fX9_resize fu (mkS T F nx) c x y = some (r, S1) ∧ fX10_resize fu S1 (c + 6) x y = some (r, S2) ∧ OUT c nW nJ st S2 := by
  obtain ⟨hT, hF, hM, hX⟩ := id h
  obtain ⟨hA, kc, s3, s4, s5, s6, s7, s8, s9, s10, s11, s12, k5⟩ := id hX.1
  have f0 := hM.1.1
  have f1 := hM.1.2.1
  have hJ := hM.1.2.2.2.1
  have hW := hM.1.2.2.2.2.2.1
  have hB := hM.2.2.2.1
  have hs := hM.2.2.2.2.2.1
  rcases jcase nJ ar x with hb | ⟨j, hjJ, rfl, hl⟩
  · refine ⟨-1, mkS T F nx, mkS T F nx, ?_, ?_, OUT.same h (Nat.le_refl _)⟩
    · simp only [fX9_resize, rcv_mk kc, x_find0 hX hJ hb, Option.bind_some, bn2_s, zz_0, zz_1, if_true, if_false, ite_true, ite_false, vI_i, vR_n, vR_r, vR_v, reduceCtorEq]
    · rw [h.w]
      simp only [fX10_resize, rcv_m hT, m_isJob0 hT f1 hJ hb, Option.bind_some, bn2_s, zz_0, zz_1, if_true, if_false, ite_true, ite_false, vI_i, vR_n, vR_r, vR_v, reduceCtorEq]
  · have hj : j < 24 := by omega
    have hL := (hX.2.2.2.1 j).2.1 hl
    have jl := hL.2.1
    obtain ⟨s, n, wy, p, n1, n2, n3, n4, n5, n6, n7, n8⟩ := hM.2.2.1 j hl
    have e5 : F (ad (200 + j)) 5 = .int (ar 4 j) := hL.2.2.2.1 5 (by omega)
    by_cases cs : ar 4 j = 1
    · by_cases y1 : y < 0
      · refine ⟨-4, mkS T F nx, mkS T F nx, ?_, ?_, OUT.same h (Nat.le_refl _)⟩
        · simp only [fX9_resize, rcv_mk kc, x_find1 hX hJ hjJ hl, gI_mk hL.1, e5, cs, x_isCount, y1, Option.bind_some, bn2_s, zz_0, zz_1, if_true, if_false, ite_true, ite_false, vI_i, vR_n, vR_r, vR_v, reduceCtorEq]
        · rw [h.w]
          simp +decide only [fX10_resize, Option.bind_some, bn2_s, zz_0, zz_1, if_true, if_false, ite_true, ite_false, vI_i, vR_n, vR_r, vR_v, reduceCtorEq, gI_m hT, gR_m hT, rcv_m hT, pV_m hT, aI_24 hT, sV_24 hT, aI_3 hT, sV_3 hT, aI_18 hT, sV_18 hT, aI_19 hT, sV_19 hT, aI_mZ hT, sV_mZ hT, ui_s, ui_n, ua_s, ua_k, m_isJob1 hT f1 hJ hjJ hl, hj, cs, y1]
      · by_cases y2 : 1000 < y
        · have y3 : ¬ y ≤ 1000 := i32_nle.mpr y2
          refine ⟨-4, mkS T F nx, mkS T F nx, ?_, ?_, OUT.same h (Nat.le_refl _)⟩
          · simp only [fX9_resize, rcv_mk kc, x_find1 hX hJ hjJ hl, gI_mk hL.1, e5, cs, x_isCount, y1, y2, Option.bind_some, bn2_s, zz_0, zz_1, if_true, if_false, ite_true, ite_false, vI_i, vR_n, vR_r, vR_v, reduceCtorEq]
          · rw [h.w]
            simp +decide only [fX10_resize, Option.bind_some, bn2_s, zz_0, zz_1, if_true, if_false, ite_true, ite_false, vI_i, vR_n, vR_r, vR_v, reduceCtorEq, gI_m hT, gR_m hT, rcv_m hT, pV_m hT, aI_24 hT, sV_24 hT, aI_3 hT, sV_3 hT, aI_18 hT, sV_18 hT, aI_19 hT, sV_19 hT, aI_mZ hT, sV_mZ hT, ui_s, ui_n, ua_s, ua_k, m_isJob1 hT f1 hJ hjJ hl, hj, cs, y1, y3]
        · have y3 : y ≤ 1000 := i32_nlt.mp y2
          obtain ⟨m, hm, rfl⟩ := nI_of2 (n := 1000) rfl y1 y3
          have hC := h.chL
          have hlD : ∀ x ∈ bl, cod x.1 ∧ ar 4 (jb x.1) ≠ 0 := fun x hx => ⟨(hB.1 x hx).1, (hB.1 x hx).2.1⟩
          have hnd := mB_nd hB hW hs
          have Dj : cod j ∧ ar 4 (jb j) ≠ 0 := ⟨cod_j hj, by rw [jb_j j hj]; exact hl⟩
          have D1 : cod (100 + j) ∧ ar 4 (jb (100 + j)) ≠ 0 := ⟨cod_1 hj, by rw [jb_1]; exact hl⟩
          have he := hM.en0 hl n3 n4
          have he1 := hM.en1 hl n3 n5 n6 n4
          obtain ⟨f, hv⟩ : ∃ f, n ≠ 0 → ar 9 j = nI f ∧ f + n ≤ nW := by
            by_cases cn : n = 0
            · exact ⟨0, fun z => absurd cn z⟩
            · obtain ⟨f, c1, c2, c3⟩ := hM.cell hl n3 n4 (by omega)
              exact ⟨f, fun _ => ⟨c1, c2⟩⟩
          obtain ⟨b1, b2, b3, b4, b5⟩ := hL.2.2.2.2 j (Or.inl rfl)
          obtain ⟨d1, d2, d3, d4, d5⟩ := hL.2.2.2.2 (100 + j) (Or.inr rfl)
          rw [bOf_j _ hj] at b4
          rw [zOf_j _ hj, n3] at b5
          rw [bOf_1] at d4
          rw [zOf_1, bsz_z n3 n5 n6] at d5
          have j1 : F (ad (200 + j)) 1 = .int (nI wy) := by rw [← n5]; exact hL.2.2.2.1 1 (by omega)
          have j2 : F (ad (200 + j)) 2 = .ref (ad j) := hL.2.2.2.1 2 (by omega)
          have j3 : F (ad (200 + j)) 3 = .ref (ad (100 + j)) := hL.2.2.2.1 3 (by omega)
          have xpre : fX9_resize fu (mkS T F nx) c (nI j) (nI m) = bn2 (fX9_exchangeBlocks fu (mkS T F nx) c (some (ad (200 + j))) (nI m)) fun r19 S20 => if r19 = 0 then (some ((-6 : Int32), S20)) else (some ((0 : Int32), S20)) := by
            simp +decide only [fX9_resize, rcv_mk kc, x_find1 hX hJ hjJ hl, gI_mk hL.1, e5, cs, x_isCount, y1, y2, Option.bind_some, bn2_s, zz_0, zz_1, if_true, if_false, ite_true, ite_false, vI_i, vR_n, vR_r, vR_v, reduceCtorEq]
          /- the reference, up to takes -/
          have mpre : ∀ G, ∃ arK, (∀ k, k ≠ 18 → arK k = ar k) ∧ (∀ q, q < n → arK 18 q = ar 3 (f + q)) ∧ fX10_resize fu (mw T G nx (c + 6) fi ar) (c + 6) (nI j) (nI m) = bn2 (fX10_takes fu (mw T G nx (c + 6) fi (ua arK 5 j (nI m))) (c + 6) (nI j) (if wy = 2 then 0 else 1)) fun r1 S2 => if r1 = 0 then ((gR S2 9 5 (some (c + 6))).bind fun v10 => (sV S2 10 v10 (nI j) (.int (nI n))).bind fun S13 => (gR S13 9 9 (some (c + 6))).bind fun v16 => (sV S13 10 v16 (nI j) (.int (ar 9 j))).bind fun S19 => (gR S19 9 10 (some (c + 6))).bind fun v22 => (sV S19 10 v22 (nI j) (.int (ar 10 j))).bind fun S25 => some ((-6 : Int32), S25)) else (fX10_resize_151 fu fu S2 (c + 6) (nI j) (nI m) (nI n) 0) := by
            intro G
            obtain ⟨m2, arK, k1, k2, k3, k4⟩ := m_kept (fu := fu) (T := T) (G := G) (nx := nx) (z := c + 6) (fi := fi) (j := j) (n := n) (f := f) (x2 := nI m) (x4 := ar 9 j) (x5 := ar 10 j) hT hv n4 n fu 0 ar (by omega) (by omega)
            refine ⟨arK, k2, fun q hq => k3 q hq (by omega), ?_⟩
            have k1' : fX10_resize_63 fu fu (mw T G nx (c + 6) fi ar) (c + 6) (nI j) (nI m) (nI n) (ar 9 j) (ar 10 j) 0 = _ := k1
            have cn : nI n ≤ nI n := nI_le (Nat.le_refl _) (by omega)
            have a6 : arK 6 j = nI wy := by rw [k2 6 (by decide)]; exact n5
            simp +decide only [fX10_resize, Option.bind_some, bn2_s, zz_0, zz_1, if_true, if_false, ite_true, ite_false, vI_i, vR_n, vR_r, vR_v, reduceCtorEq, gI_m hT, gR_m hT, rcv_m hT, pV_m hT, aI_24 hT, sV_24 hT, aI_3 hT, sV_3 hT, aI_18 hT, sV_18 hT, aI_19 hT, sV_19 hT, aI_mZ hT, sV_mZ hT, ui_s, ui_n, ua_s, ua_k, m_isJob1 hT f1 hJ hjJ hl, hj, cs, y1, y3, n3, k1']
            rw [fX10_resize_63]
            simp +decide only [cn, Option.bind_some, bn2_s, zz_0, zz_1, if_true, if_false, ite_true, ite_false, vI_i, vR_n, vR_r, vR_v, reduceCtorEq, gI_m hT, gR_m hT, rcv_m hT, pV_m hT, aI_24 hT, sV_24 hT, aI_3 hT, sV_3 hT, aI_18 hT, sV_18 hT, aI_19 hT, sV_19 hT, aI_mZ hT, sV_mZ hT, ui_s, ui_n, ua_s, ua_k, hj, a6]
            by_cases cw : wy = 2
            · subst cw
              simp +decide only [show nI 2 = (2 : Int32) from rfl, if_true, fX10_resize_116, rcv_m hT, Option.bind_some, bn2_s, zz_0, zz_1, if_true, if_false, ite_true, ite_false, vI_i, vR_n, vR_r, vR_v, reduceCtorEq]
            · have cw2 : ¬ nI wy = (2 : Int32) := fun z => cw ((nI_eq (a := wy) (b := 2) (by omega) (by omega)).mp z)
              simp +decide only [cw, cw2, if_false, fX10_resize_116, rcv_m hT, Option.bind_some, bn2_s, zz_0, zz_1, if_true, if_false, ite_true, ite_false, vI_i, vR_n, vR_r, vR_v, reduceCtorEq]
          have rest : ∀ (arK X : Nat → Nat → Int32), (∀ k, k ≠ 18 → arK k = ar k) → (∀ k i, k ≠ 9 → k ≠ 10 → X k i = ua arK 5 j (nI m) k i) → (∀ k i, i ≠ j → X k i = ua arK 5 j (nI m) k i) → ∀ k, k ≠ 18 → ua (ua (ua X 5 j (nI n)) 9 j (ar 9 j)) 10 j (ar 10 j) k = ar k := by
            intro arK X h1 h2 h3 k hk
            funext i
            by_cases ei : i = j
            · subst ei
              by_cases e10 : k = 10
              · rw [e10, ua_s]
              · rw [ua_k _ _ _ _ e10]
                by_cases e9 : k = 9
                · rw [e9, ua_s]
                · rw [ua_k _ _ _ _ e9]
                  by_cases e5 : k = 5
                  · rw [e5, ua_s]; exact n3.symm
                  · rw [ua_k _ _ _ _ e5, h2 k i e9 e10, ua_k _ _ _ _ e5, h1 k hk]
            · rw [ua_j _ _ _ _ ei, ua_j _ _ _ _ ei, ua_j _ _ _ _ ei, h3 k i ei, ua_j _ _ _ _ ei, h1 k hk]
          by_cases cw : wy = 2
          · /- cells and buffer -/
            subst cw
            have b2n : ∀ k, bz 2 k = k := fun k => by simp [bz]
            rw [b2n] at he1 d5
            obtain ⟨xn, xy⟩ := x_xchg1 (fu := fu) (nx := nx) (ja := ad (200 + j)) (n := n) (m := m) hC hA kc s3 hL.1 j1 j2 j3 hj Dj D1 hlD hnd hs hX.2.1 s9 s10 he he1 b4 b5 d4 d5 n4 hm hfu
            have hBm : ∀ arK : Nat → Nat → Int32, (∀ k, k ≠ 18 → arK k = ar k) → mB (ua (ua (ua arK 5 j (nI m)) 9 j (-1)) 10 j (-1)) nW ((bl.filter (fun x => !(x.1 == j))).filter (fun x => !(x.1 == 100 + j))) := by
              intro arK hr
              have hrm := mB_rm (mB_rm hB (cod_j hj)) (cod_1 hj)
              rw [sB_j _ hj, sB_1] at hrm
              have gj : ∀ k i, i ≠ j → k ≠ 18 → ua (ua (ua arK 5 j (nI m)) 9 j (-1)) 10 j (-1) k i = ar k i := fun k i a b => by rw [ua_j _ _ _ _ a, ua_j _ _ _ _ a, ua_j _ _ _ _ a, hr k b]
              have gj' : ∀ k i, i ≠ j → ua (ua ar 9 j (-1)) 10 j (-1) k i = ar k i := fun k i a => by rw [ua_j _ _ _ _ a, ua_j _ _ _ _ a]
              have g4 : ∀ i, ua (ua (ua arK 5 j (nI m)) 9 j (-1)) 10 j (-1) 4 i = ar 4 i := fun i => by rw [ua_k _ _ _ _ (by decide), ua_k _ _ _ _ (by decide), ua_k _ _ _ _ (by decide), hr 4 (by decide)]
              have g4' : ∀ i, ua (ua ar 9 j (-1)) 10 j (-1) 4 i = ar 4 i := fun i => by rw [ua_k _ _ _ _ (by decide), ua_k _ _ _ _ (by decide)]
              have hbz : ∀ q, cod q → jb q ≠ j → bOf (ua (ua (ua arK 5 j (nI m)) 9 j (-1)) 10 j (-1)) q = bOf (ua (ua ar 9 j (-1)) 10 j (-1)) q ∧ zOf (ua (ua (ua arK 5 j (nI m)) 9 j (-1)) 10 j (-1)) q = zOf (ua (ua ar 9 j (-1)) 10 j (-1)) q := fun q hc hq => by
                rcases cod_cs hc with ⟨a1, a2⟩ | ⟨a1, a2⟩
                · rw [a1, bOf_j _ a2, bOf_j _ a2, zOf_j _ a2, zOf_j _ a2, gj _ _ hq (by decide), gj _ _ hq (by decide), gj' _ _ hq, gj' _ _ hq]; exact ⟨rfl, rfl⟩
                · rw [a1, bOf_1, bOf_1, zOf_1, zOf_1]; unfold bsz; rw [gj _ _ hq (by decide), gj _ _ hq (by decide), gj _ _ hq (by decide), gj' _ _ hq, gj' _ _ hq, gj' _ _ hq]; exact ⟨rfl, rfl⟩
              refine mB_g hrm (fun x hx => ?_) (fun q hq hlq => ?_)
              · have h1 := (List.mem_filter.mp hx).2
                have h2 := (List.mem_filter.mp (List.mem_filter.mp hx).1).2
                have h3 := (List.mem_filter.mp (List.mem_filter.mp hx).1).1
                obtain ⟨c1, c2, _⟩ := hB.1 x h3
                have hjb : jb x.1 ≠ j := by
                  simp at h1 h2
                  rcases cod_cs c1 with e | e <;> omega
                exact ⟨by rw [g4]; exact c2, hbz _ c1 hjb⟩
              · by_cases hjb : jb q = j
                · refine Or.inl ?_
                  rcases cod_cs hq with ⟨a1, a2⟩ | ⟨a1, a2⟩
                  · rw [a1, hjb, bOf_j _ hj]; simp [ua]
                  · rw [a1, hjb, bOf_1]; simp [ua]
                · rw [g4] at hlq
                  exact Or.inr ⟨by rw [g4']; exact hlq, (hbz q hq hjb).1⟩
            have mtk : ∀ G (arK : Nat → Nat → Int32), (∀ k, k ≠ 18 → arK k = ar k) → _ := fun G arK hr => m_takes0 (fu := fu) (T := T) (G := G) (nx := nx) (z := c + 6) (j := j) (n := m) (wy := 2) (fi := fi) (ar := ua arK 5 j (nI m)) (bl := (bl.filter (fun x => !(x.1 == j))).filter (fun x => !(x.1 == 100 + j))) hT f0 hj (by rw [ua_k _ _ _ _ (by decide), hr 4 (by decide)]; exact hl) (ua_s _ _ _ _) hm (by rw [ua_k _ _ _ _ (by decide), hr 6 (by decide)]; exact n5) (by omega) (hBm arK hr) (srt_filter _ (srt_filter _ hs)) (by omega)
            cases htk : tk nW m m j ((bl.filter (fun x => !(x.1 == j))).filter (fun x => !(x.1 == 100 + j))) with
            | none =>
              obtain ⟨F', a1, a2, a3, a4, a5, a6, a7, a8⟩ := xn htk
              obtain ⟨arK, k1, k2, k3⟩ := mpre F'
              have mt := (mtk F' arK k1).1 (by rw [b2n]; exact htk)
              obtain ⟨v1, v2, mt⟩ := mt
              have hrr := rest arK (ua (ua (ua arK 5 j (nI m)) 9 j v1) 10 j v2) k1 (fun k i h1 h2 => by rw [ua_k _ _ _ _ h2, ua_k _ _ _ _ h1]) (fun k i hi => by rw [ua_j _ _ _ _ hi, ua_j _ _ _ _ hi])
              obtain ⟨w1, w2⟩ := resize_no (F' := F') (ar' := ua (ua (ua (ua (ua (ua arK 5 j (nI m)) 9 j v1) 10 j v2) 5 j (nI n)) 9 j (ar 9 j)) 10 j (ar 10 j)) h hjJ cs a2 a7 (fun a ha g hg => by
                by_cases e1 : a = ad j
                · rw [e1]
                  rcases (show g = 0 ∨ g = 1 by omega) with rfl | rfl
                  · rw [a3, b4]
                  · rw [a4, b5]
                · by_cases e2 : a = ad (100 + j)
                  · rw [e2]
                    rcases (show g = 0 ∨ g = 1 by omega) with rfl | rfl
                    · rw [a5, d4]
                    · rw [a6, d5]
                  · exact a8 a e1 e2 g (by omega)) hrr
              refine ⟨-6, mkS T F' nx, _, ?_, ?_, w2⟩
              · rw [xpre, a1]; simp only [Option.bind_some, bn2_s, zz_0, zz_1, if_true, if_false, ite_true, ite_false, vI_i, vR_n, vR_r, vR_v, reduceCtorEq]
              · rw [show mkS T F' nx = mw T F' nx (c + 6) fi ar by show _ = mkS T _ nx; rw [w1], k3, if_pos rfl, mt]
                simp +decide only [Option.bind_some, bn2_s, zz_0, zz_1, if_true, if_false, ite_true, ite_false, vI_i, vR_n, vR_r, vR_v, reduceCtorEq, gI_m hT, gR_m hT, rcv_m hT, pV_m hT, aI_24 hT, sV_24 hT, aI_3 hT, sV_3 hT, aI_18 hT, sV_18 hT, aI_19 hT, sV_19 hT, aI_mZ hT, sV_mZ hT, ui_s, ui_n, ua_s, ua_k, hj]
            | some r =>
              obtain ⟨bl', v1, v2⟩ := r
              obtain ⟨F', a1, a2, a3, a4, a5, a6, a7, a8⟩ := xy bl' v1 v2 htk
              obtain ⟨arK0, k10, k20, _⟩ := mpre F
              obtain ⟨_, hB', hs'⟩ := (mtk F arK0 k10).2 bl' v1 v2 (by rw [b2n]; exact htk)
              obtain ⟨bl1, t1e, t2e⟩ : ∃ bl1, t1 nW m j ((bl.filter (fun x => !(x.1 == j))).filter (fun x => !(x.1 == 100 + j))) = some (bl1, v1) ∧ t1 nW m (100 + j) bl1 = some (bl', v2) := by
                unfold tk at htk
                split at htk
                · cases htk
                · rename_i r1 hr1
                  split at htk
                  · cases htk
                  · rename_i r2 hr2
                    injection htk with htk
                    injection htk with q1 q2
                    injection q2 with q2 q3
                    exact ⟨r1.1, by rw [hr1, ← q2], by rw [hr2, ← q1, ← q3]⟩
              have oL := t1_mB (hBm arK0 k10) hW (cod_j hj) (by rw [jb_j j hj, ua_k _ _ _ _ (by decide), ua_k _ _ _ _ (by decide), ua_k _ _ _ _ (by decide), k10 4 (by decide)]; exact hl) (by rw [zOf_j _ hj, ua_k _ _ _ _ (by decide), ua_k _ _ _ _ (by decide), ua_s]) (srt_filter _ (srt_filter _ hs)) (by rw [bOf_j _ hj]; simp [ua]) t1e
              have hbl1 : mB (ua (ua (ua arK0 5 j (nI m)) 9 j v1) 10 j (-1)) nW bl1 := by
                have := oL.1
                rw [sB_j _ hj, ua_com _ _ _ _ _ (by decide : (10 : Nat) ≠ 9), ua_ua] at this
                exact this
              have oL2 := t1_mB hbl1 hW (cod_1 hj) (by rw [jb_1, ua_k _ _ _ _ (by decide), ua_k _ _ _ _ (by decide), ua_k _ _ _ _ (by decide), k10 4 (by decide)]; exact hl) (by rw [zOf_1, bsz_z (n := m) (wy := 2) (by rw [ua_k _ _ _ _ (by decide), ua_k _ _ _ _ (by decide), ua_s]) (by rw [ua_k _ _ _ _ (by decide), ua_k _ _ _ _ (by decide), ua_k _ _ _ _ (by decide), k10 6 (by decide)]; exact n5) (by omega), b2n]) oL.2.1 (by rw [bOf_1]; simp [ua]) t2e
              have hsub : ∀ x ∈ bl1, x ∈ bl' := fun x hx => by
                by_cases cb : m = 0
                · rw [oL2.2.2.2.1 cb]; exact hx
                · obtain ⟨e, _, _, hmm⟩ := oL2.2.2.2.2 cb
                  exact (hmm x).mpr (Or.inr hx)
              have hee : m ≠ 0 → ∃ e, v1 = nI e ∧ e + m ≤ nW ∧ (j, e, m) ∈ bl' := fun cm => by
                obtain ⟨e, q1, q2, q3⟩ := oL.2.2.2.2 cm
                exact ⟨e, q1, q2, hsub _ ((q3 _).mpr (Or.inl rfl))⟩
              /- the words do not depend on which rows -/
              obtain ⟨F6, S2, x1, x2, x3, x4⟩ := resize_ok (fu := fu) (F' := F') (wy := 2) (n := n) (m := m) (x3 := 1) (f := f) h hfu hjJ cs hm n3 n4 n5 n6 hv k10 k20 hB' hs' oL.2.2.1 (by rw [b2n]; exact oL2.2.2.1) hee a2 a3 a4 a5 (by rw [b2n]; exact a6) a7 a8
              obtain ⟨arK, k1, k2, k3⟩ := mpre F6
              obtain ⟨mt, hB'', hs''⟩ := (mtk F6 arK k1).2 bl' v1 v2 (by rw [b2n]; exact htk)
              obtain ⟨F7, S3, y1', y2', y3', y4'⟩ := resize_ok (fu := fu) (F' := F') (wy := 2) (n := n) (m := m) (x3 := 1) (f := f) h hfu hjJ cs hm n3 n4 n5 n6 hv k1 k2 hB'' hs'' oL.2.2.1 (by rw [b2n]; exact oL2.2.2.1) hee a2 a3 a4 a5 (by rw [b2n]; exact a6) a7 a8
              have e67 : mkS T F6 nx = mkS T F7 nx := by
                rw [x1] at y1'
                injection y1' with y1'
                injection y1' with _ y1'
              have ew : mw T F6 nx (c + 6) fi (ua (ua (ua arK 5 j (nI m)) 9 j v1) 10 j v2) = mw T F7 nx (c + 6) fi (ua (ua (ua arK 5 j (nI m)) 9 j v1) 10 j v2) := mkS_mF e67
              refine ⟨0, mkS T F6 nx, S3, ?_, ?_, y4'⟩
              · rw [xpre, a1, x1]; simp +decide only [Option.bind_some, bn2_s, zz_0, zz_1, if_true, if_false, ite_true, ite_false, vI_i, vR_n, vR_r, vR_v, reduceCtorEq]
              · rw [show mkS T F6 nx = mw T F6 nx (c + 6) fi ar by show _ = mkS T _ nx; rw [x2], k3, if_pos rfl, mt, ew]
                simp +decide only [y3', Option.bind_some, bn2_s, zz_0, zz_1, if_true, if_false, ite_true, ite_false, vI_i, vR_n, vR_r, vR_v, reduceCtorEq]
          · /- the cells alone -/
            have bzw : bz wy m = bz wy n := by unfold bz; rw [if_neg cw, if_neg cw]
            obtain ⟨xn, xy⟩ := x_xchg0 (fu := fu) (nx := nx) (ja := ad (200 + j)) (wy := wy) (n := n) (m := m) hC hA kc s3 hL.1 j1 j2 j3 n6 cw hj Dj D1 hlD hnd hs hX.2.1 s9 s10 he b4 b5 d4 n4 hm hfu
            have dne : ad (100 + j) ≠ ad j := fun e => by have := hX.ib D1.1 D1.2 Dj.1 Dj.2 e; omega
            have hBm : ∀ arK : Nat → Nat → Int32, (∀ k, k ≠ 18 → arK k = ar k) → mB (ua (ua arK 5 j (nI m)) 9 j (-1)) nW (bl.filter (fun x => !(x.1 == j))) := by
              intro arK hr
              have hrm := mB_rm hB (cod_j hj)
              rw [sB_j _ hj] at hrm
              have g4 : ∀ i, ua (ua arK 5 j (nI m)) 9 j (-1) 4 i = ar 4 i := fun i => by rw [ua_k _ _ _ _ (by decide), ua_k _ _ _ _ (by decide), hr 4 (by decide)]
              have g4' : ∀ i, ua ar 9 j (-1) 4 i = ar 4 i := fun i => ua_k _ _ _ _ (by decide)
              have gb : ∀ q, bOf (ua (ua arK 5 j (nI m)) 9 j (-1)) q = bOf (ua ar 9 j (-1)) q := fun q => by
                have r9 : ua (ua arK 5 j (nI m)) 9 j (-1) 9 = ua ar 9 j (-1) 9 := by
                  funext i
                  by_cases ei : i = j
                  · rw [ei, ua_s, ua_s]
                  · rw [ua_j _ _ _ _ ei, ua_j _ _ _ _ ei, ua_j _ _ _ _ ei, hr 9 (by decide)]
                have r10 : ua (ua arK 5 j (nI m)) 9 j (-1) 10 = ua ar 9 j (-1) 10 := by
                  funext i
                  rw [ua_k _ _ _ _ (by decide), ua_k _ _ _ _ (by decide), ua_k _ _ _ _ (by decide), hr 10 (by decide)]
                unfold bOf; rw [r9, r10]
              have gz : ∀ q, cod q → q ≠ j → zOf (ua (ua arK 5 j (nI m)) 9 j (-1)) q = zOf (ua ar 9 j (-1)) q := fun q hc hq => by
                have r6 : ∀ i, ua (ua arK 5 j (nI m)) 9 j (-1) 6 i = ar 6 i := fun i => by rw [ua_k _ _ _ _ (by decide), ua_k _ _ _ _ (by decide), hr 6 (by decide)]
                have r6' : ∀ i, ua ar 9 j (-1) 6 i = ar 6 i := fun i => ua_k _ _ _ _ (by decide)
                have r5 : ∀ i, i ≠ j → ua (ua arK 5 j (nI m)) 9 j (-1) 5 i = ar 5 i := fun i hi => by rw [ua_k _ _ _ _ (by decide), ua_j _ _ _ _ hi, hr 5 (by decide)]
                have r5' : ∀ i, ua ar 9 j (-1) 5 i = ar 5 i := fun i => ua_k _ _ _ _ (by decide)
                rcases cod_cs hc with ⟨a1, a2⟩ | ⟨a1, a2⟩
                · have : jb q ≠ j := by rw [← a1]; exact hq
                  rw [a1, zOf_j _ a2, zOf_j _ a2, r5 _ this, r5']
                · rw [a1, zOf_1, zOf_1]
                  by_cases ej : jb q = j
                  · rw [ej, bsz_z (n := m) (wy := wy) (by rw [ua_k _ _ _ _ (by decide), ua_s]) (by rw [r6]; exact n5) n6, bsz_z (n := n) (wy := wy) (by rw [r5']; exact n3) (by rw [r6']; exact n5) n6, bzw]
                  · unfold bsz; rw [r6, r6', r5 _ ej, r5']
              refine mB_g hrm (fun x hx => ?_) (fun q hq hlq => ?_)
              · have h2 := (List.mem_filter.mp hx).2
                have h3 := (List.mem_filter.mp hx).1
                obtain ⟨c1, c2, _⟩ := hB.1 x h3
                have hxj : x.1 ≠ j := by simpa using h2
                exact ⟨by rw [g4]; exact c2, gb _, gz _ c1 hxj⟩
              · rw [g4] at hlq
                exact Or.inr ⟨by rw [g4']; exact hlq, gb q⟩
            have mtk : ∀ G (arK : Nat → Nat → Int32), (∀ k, k ≠ 18 → arK k = ar k) → _ := fun G arK hr => m_takes1 (fu := fu) (T := T) (G := G) (nx := nx) (z := c + 6) (j := j) (n := m) (fi := fi) (ar := ua arK 5 j (nI m)) (bl := bl.filter (fun x => !(x.1 == j))) hT f0 hj (by rw [ua_k _ _ _ _ (by decide), hr 4 (by decide)]; exact hl) (ua_s _ _ _ _) hm (hBm arK hr) (srt_filter _ hs) (by omega)
            cases ht1 : t1 nW m j (bl.filter (fun x => !(x.1 == j))) with
            | none =>
              obtain ⟨F', a1, a2, a3, a4, a7, a8⟩ := xn ht1
              obtain ⟨arK, k1, k2, k3⟩ := mpre F'
              obtain ⟨v1, mt⟩ := (mtk F' arK k1).1 ht1
              have hrr := rest arK (ua (ua arK 5 j (nI m)) 9 j v1) k1 (fun k i h1 h2 => by rw [ua_k _ _ _ _ h1]) (fun k i hi => by rw [ua_j _ _ _ _ hi])
              obtain ⟨w1, w2⟩ := resize_no (F' := F') (ar' := ua (ua (ua (ua (ua arK 5 j (nI m)) 9 j v1) 5 j (nI n)) 9 j (ar 9 j)) 10 j (ar 10 j)) h hjJ cs a2 a7 (fun a ha g hg => by
                by_cases e1 : a = ad j
                · rw [e1]
                  rcases (show g = 0 ∨ g = 1 by omega) with rfl | rfl
                  · rw [a3, b4]
                  · rw [a4, b5]
                · exact a8 a e1 g (by omega)) hrr
              refine ⟨-6, mkS T F' nx, _, ?_, ?_, w2⟩
              · rw [xpre, a1]; simp only [Option.bind_some, bn2_s, zz_0, zz_1, if_true, if_false, ite_true, ite_false, vI_i, vR_n, vR_r, vR_v, reduceCtorEq]
              · rw [show mkS T F' nx = mw T F' nx (c + 6) fi ar by show _ = mkS T _ nx; rw [w1], k3, if_neg cw, mt]
                simp +decide only [Option.bind_some, bn2_s, zz_0, zz_1, if_true, if_false, ite_true, ite_false, vI_i, vR_n, vR_r, vR_v, reduceCtorEq, gI_m hT, gR_m hT, rcv_m hT, pV_m hT, aI_24 hT, sV_24 hT, aI_3 hT, sV_3 hT, aI_18 hT, sV_18 hT, aI_19 hT, sV_19 hT, aI_mZ hT, sV_mZ hT, ui_s, ui_n, ua_s, ua_k, hj]
            | some r =>
              obtain ⟨bl', v1⟩ := r
              obtain ⟨F', a1, a2, a3, a4, a7, a8⟩ := xy bl' v1 ht1
              have self10 : ∀ arK : Nat → Nat → Int32, (∀ k, k ≠ 18 → arK k = ar k) → ua (ua (ua arK 5 j (nI m)) 9 j v1) 10 j (ar 10 j) = ua (ua arK 5 j (nI m)) 9 j v1 := fun arK hr => ua_self (by rw [ua_k _ _ _ _ (by decide), ua_k _ _ _ _ (by decide), hr 10 (by decide)])
              have hz2 : ar 10 j = -1 ↔ bz wy m = 0 := by
                have := hM.2.2.2.2.1 (100 + j) D1.1 D1.2
                rw [bOf_1, zOf_1, bsz_z n3 n5 n6] at this
                rw [bzw]
                refine this.trans ⟨fun z => ?_, fun z => by rw [z]; rfl⟩
                by_cases cn : bz wy n = 0
                · exact cn
                · exact absurd z (nI_ne0 (by omega) (by have := bz_le (wy := wy) n4; omega))
              have all : ∀ arK : Nat → Nat → Int32, (∀ k, k ≠ 18 → arK k = ar k) → (∀ q, q < n → arK 18 q = ar 3 (f + q)) → ∃ F6 S2, fX9_exchangeBlocks_92 fu (mkS T F' nx) c (some (ad (200 + j))) (nI m) 0 (ar 9 j) (ar 10 j) (nI n) 1 = some (1, mkS T F6 nx) ∧ mF F6 (c + 6) fi ar = F6 ∧ fX10_resize_151 fu fu (mw T F6 nx (c + 6) fi (ua (ua arK 5 j (nI m)) 9 j v1)) (c + 6) (nI j) (nI m) (nI n) 0 = some (0, S2) ∧ OUT c nW nJ st S2 := by
                intro arK k1 k2
                have oL := t1_mB (hBm arK k1) hW (cod_j hj) (by rw [jb_j j hj, ua_k _ _ _ _ (by decide), ua_k _ _ _ _ (by decide), k1 4 (by decide)]; exact hl) (by rw [zOf_j _ hj, ua_k _ _ _ _ (by decide), ua_s]) (srt_filter _ hs) (by rw [bOf_j _ hj]; simp [ua]) ht1
                obtain ⟨_, hB', hs'⟩ := (mtk F arK k1).2 bl' v1 ht1
                have hee : m ≠ 0 → ∃ e, v1 = nI e ∧ e + m ≤ nW ∧ (j, e, m) ∈ bl' := fun cm => by
                  obtain ⟨e, q1, q2, q3⟩ := oL.2.2.2.2 cm
                  exact ⟨e, q1, q2, (q3 _).mpr (Or.inl rfl)⟩
                have := resize_ok (fu := fu) (F' := F') (wy := wy) (n := n) (m := m) (x3 := 0) (f := f) (v1 := v1) (v2 := ar 10 j) (bl' := bl') h hfu hjJ cs hm n3 n4 n5 n6 hv k1 k2 (by rw [self10 arK k1]; exact hB') hs' oL.2.2.1 hz2 hee a2 a3 a4 (by rw [a8 _ dne 0 (by decide)]; exact d4) (by rw [a8 _ dne 1 (by decide), bzw]; exact d5) a7 (fun a h1 _ g hg => a8 a h1 g hg)
                rw [self10 arK k1] at this
                exact this
              obtain ⟨arK0, k10, k20, _⟩ := mpre F
              obtain ⟨F6, S2, x1, x2, x3, x4⟩ := all arK0 k10 k20
              obtain ⟨arK, k1, k2, k3⟩ := mpre F6
              obtain ⟨mt, _, _⟩ := (mtk F6 arK k1).2 bl' v1 ht1
              obtain ⟨F7, S3, y1', y2', y3', y4'⟩ := all arK k1 k2
              have e67 : mkS T F6 nx = mkS T F7 nx := by
                rw [x1] at y1'
                injection y1' with y1'
                injection y1' with _ y1'
              have ew : mw T F6 nx (c + 6) fi (ua (ua arK 5 j (nI m)) 9 j v1) = mw T F7 nx (c + 6) fi (ua (ua arK 5 j (nI m)) 9 j v1) := mkS_mF e67
              refine ⟨0, mkS T F6 nx, S3, ?_, ?_, y4'⟩
              · rw [xpre, a1, x1]; simp +decide only [Option.bind_some, bn2_s, zz_0, zz_1, if_true, if_false, ite_true, ite_false, vI_i, vR_n, vR_r, vR_v, reduceCtorEq]
              · rw [show mkS T F6 nx = mw T F6 nx (c + 6) fi ar by show _ = mkS T _ nx; rw [x2], k3, if_neg cw, mt, ew]
                simp +decide only [y3', Option.bind_some, bn2_s, zz_0, zz_1, if_true, if_false, ite_true, ite_false, vI_i, vR_n, vR_r, vR_v, reduceCtorEq]
    · refine ⟨-3, mkS T F nx, mkS T F nx, ?_, ?_, OUT.same h (Nat.le_refl _)⟩
      · simp only [fX9_resize, rcv_mk kc, x_find1 hX hJ hjJ hl, gI_mk hL.1, e5, cs, Option.bind_some, bn2_s, zz_0, zz_1, if_true, if_false, ite_true, ite_false, vI_i, vR_n, vR_r, vR_v, reduceCtorEq]
      · rw [h.w]
        simp +decide only [fX10_resize, Option.bind_some, bn2_s, zz_0, zz_1, if_true, if_false, ite_true, ite_false, vI_i, vR_n, vR_r, vR_v, reduceCtorEq, gI_m hT, gR_m hT, rcv_m hT, pV_m hT, aI_24 hT, sV_24 hT, aI_3 hT, sV_3 hT, aI_18 hT, sV_18 hT, aI_19 hT, sV_19 hT, aI_mZ hT, sV_mZ hT, ui_s, ui_n, ua_s, ua_k, m_isJob1 hT f1 hJ hjJ hl, hj, cs]
end RZ
