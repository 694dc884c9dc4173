section PK
variable {T T' : Nat → Option (Nat × Nat)} {F F' F0 F1 G : Nat → Nat → Value} {nx nx' nx2 c nW nJ st st' i j fu z n K wy p : Nat} {fi fi' : Nat → Int32} {ar ar' : Nat → Nat → Int32} {ad da ad' da' : Nat → Nat} {bl bl' : bL} {ql : List Nat} {w w' : Nat → Int32}
theorem mT_n1 (hT : mT T (c + 6) nW) {q : Nat} (q1 : c + 6 ≤ q) (q2 : q < c + 21) : kd T q ≠ some 1 := by
  by_cases e : q = c + 6
  · rw [e, mT_z hT]; decide
  · have : ∃ k, mo k ≠ 0 ∧ q = c + 6 + mo k := by
      have : q = c + 6 + 1 ∨ q = c + 6 + 2 ∨ q = c + 6 + 3 ∨ q = c + 6 + 4 ∨ q = c + 6 + 5 ∨ q = c + 6 + 6 ∨ q = c + 6 + 7 ∨ q = c + 6 + 8 ∨ q = c + 6 + 9 ∨ q = c + 6 + 10 ∨ q = c + 6 + 11 ∨ q = c + 6 + 12 ∨ q = c + 6 + 13 ∨ q = c + 6 + 14 := by omega
      rcases this with h | h | h | h | h | h | h | h | h | h | h | h | h | h
      · exact ⟨4, by decide, h⟩
      · exact ⟨5, by decide, h⟩
      · exact ⟨6, by decide, h⟩
      · exact ⟨7, by decide, h⟩
      · exact ⟨8, by decide, h⟩
      · exact ⟨9, by decide, h⟩
      · exact ⟨10, by decide, h⟩
      · exact ⟨11, by decide, h⟩
      · exact ⟨12, by decide, h⟩
      · exact ⟨13, by decide, h⟩
      · exact ⟨14, by decide, h⟩
      · exact ⟨18, by decide, h⟩
      · exact ⟨19, by decide, h⟩
      · exact ⟨3, by decide, h⟩
    obtain ⟨k, hk, rfl⟩ := this
    rw [mT_k hT hk]
    unfold mkind
    split <;> decide
theorem bch_at : ∀ {l : bL} {a : Nat}, bch T F a l → ∀ x ∈ l, F x.1 0 = .int (nI x.2.1) ∧ F x.1 1 = .int (nI x.2.2)
  | [], _, _, x, hx => by cases hx
  | (b, f, s) :: r, a, h, x, hx => by
    rcases List.mem_cons.mp hx with rfl | hx
    · exact ⟨h.2.2.1, h.2.2.2.1⟩
    · exact bch_at h.2.2.2.2 x hx
theorem op_pack (h : INV T F nx c nW nJ st fi ar ad da bl ql) (hfu : 3001 < fu) : ∃ r S1 S2, fX9_pack fu (mkS T F nx) c = some (r, S1) ∧ fX10_pack fu S1 (c + 6) = some (r, S2) ∧ OUT c nW nJ st S2 := by
  obtain ⟨hT, hF, hM, hX⟩ := id h
  obtain ⟨hA, kc, s3, s4, s5, s6, s7, s8, s9, s10, s11, s12, k5⟩ := id hX.1
  have hQ := hM.2.2.2.2.2.2
  have hB := hM.2.2.2.1
  have hs := hM.2.2.2.2.2.1
  have hW := hM.1.2.2.2.2.2.1
  have hC := h.chL
  have hlD : ∀ x ∈ bl, cod x.1 ∧ ar 4 (jb x.1) ≠ 0 := fun x hx => ⟨(hB.1 x hx).1, (hB.1 x hx).2.1⟩
  have hlen : bl.length ≤ 3000 := by have := srt_len hs; omega
  have hnd := mB_nd hB hW hs
  have hbk := hX.bls hB
  obtain ⟨F1, a1, a2, a3, a4, a5⟩ := x_pack (fu := fu) (nx := nx) hA hX.2.1 (by rw [srt_am]; exact hs) (List.nodup_cons.mp (hC.nd hnd hlD)).2 (fun q hq => by have := (hbk q hq).2; omega) (by rw [List.length_map]; omega)
  rw [pkN_am] at a1
  rw [pkW_am] at a2
  rw [pkL_am] at a3
  have nk : ∀ {q k : Nat}, kd T q = some k → k ≠ 1 → kd T q ≠ some 1 := fun h1 h2 => by rw [h1]; intro z; injection z with z; omega
  have F1n : ∀ q, q ≠ c + 2 → kd T q ≠ some 1 → F1 q = F q := fun q h1 h2 => a4 q (fun hq => h2 (hbk q hq).1) h1
  have hw : mF F1 (c + 6) fi ar = F1 := mF_keep hF (fun q q1 q2 => F1n q (by omega) (mT_n1 hT q1 (by omega)))
  obtain ⟨ar', b1, b2, b3, b4, b5⟩ := m_pack (fu := fu) (G := F1) (nx := nx) hT hM.1.1 hB hs (by omega) (by omega)
  have r : ∀ k, 4 ≤ k → k ≠ 9 → k ≠ 10 → ar' k = ar k := fun k h1 h2 h3 => b4 k (by omega) h2 h3
  have r4 := r 4 (by omega) (by omega) (by omega)
  have r5 := r 5 (by omega) (by omega) (by omega)
  have r6 := r 6 (by omega) (by omega) (by omega)
  have r7 := r 7 (by omega) (by omega) (by omega)
  have ez : ∀ q, zOf ar' q = zOf ar q := zOf_c r5 r6
  have inL : ∀ q f s, (q, f, s) ∈ bl → ∃ g, (q, g, s) ∈ pkL 0 bl ∧ ∀ t, t < s → pkW 0 bl (ar 3) (g + t) = ar 3 (f + t) := fun q f s hq => pkW_mem hs (Nat.le_refl _) (q, f, s) hq
  have hM' : MI nW nJ st fi ar' (pkL 0 bl) ql := by
    refine ⟨hM.1, fun k hk => by rw [r4]; exact hM.2.1 k hk, fun k hk => ?_, b2, fun q hq hq2 => ?_, srt_pkL hs (Nat.le_refl _), hQ.cg r4 r7 (r 11 (by omega) (by omega) (by omega))⟩
    · rw [r4] at hk
      obtain ⟨s, n, wy, p, n1, n2, n3, n4, n5, n6, n7, n8⟩ := hM.2.2.1 k hk
      exact ⟨s, n, wy, p, by rw [r4]; exact n1, n2, by rw [r5]; exact n3, n4, by rw [r6]; exact n5, n6, by rw [r7]; exact n7, n8⟩
    · rw [r4] at hq2
      rw [ez]
      by_cases hm : q ∈ bl.map (fun x => x.1)
      · obtain ⟨⟨q', f, s⟩, hx, e⟩ := List.mem_map.mp hm
        simp only at e
        subst e
        obtain ⟨g, g1, g2⟩ := inL q' f s hx
        obtain ⟨c1, c2, c3, c4, c5, c6⟩ := b2.1 _ g1
        simp only at c3 c5 c6
        rw [ez] at c4
        rw [c3, c4]
        constructor
        · intro z; exact absurd z (nI_n1 (by omega))
        · intro z; exact absurd z (nI_ne0 (by omega) (by simp only; omega))
      · rw [b5 q hq hm]; exact hM.2.2.2.2.1 q hq hq2
  refine ⟨nI (pkN 0 bl), mkS T F1 nx, mw T F1 nx (c + 6) fi ar', ?_, ?_, ?_⟩
  · simp only [fX9_pack, gR_mk kc, s3, rcv_mk hA.1, a1, Option.bind_some, bn2_s, zz_0, zz_1, if_true, if_false, ite_true, ite_false, vI_i, vR_n, vR_r, vR_v, reduceCtorEq]
  · rw [show mkS T F1 nx = mw T F1 nx (c + 6) fi ar by show _ = mkS T _ nx; rw [hw]]
    exact b1
  · refine ⟨T, _, nx, fi, ar', ad, da, _, ql, st, Nat.le_refl _, rfl, INV.mk hT hM' ?_⟩
    have ec := F1n c (by omega) (nk kc (by decide))
    refine ⟨?_, a3, ?_, fun i => ?_, hX.2.2.2.2.1, hX.2.2.2.2.2⟩
    · refine hX.1.cg (fun k _ => by rw [ec]) (by rw [ec]; exact s7) (by rw [ec]; exact s8) (F1n _ (by omega) (nk hA.1 (by decide))) (fun k _ => ?_) (by rw [b3]; exact a2.2.2.2.2.2.2.2) rfl
      rw [a4 (c + 3) (fun hq => by have := (hbk _ hq).2; omega) (by omega)]
    · rw [F1n _ (by omega) (nk k5 (by decide))]
      exact jch_congr hX.2.2.1 (fun q hq => by rw [F1n q (by have := (hX.qj hQ q hq).2; omega) (nk (hX.qj hQ q hq).1 (by decide))])
    · have hx := hX.2.2.2.1 i
      have bAt : ar 4 i ≠ 0 → ∀ q, q = i ∨ q = 100 + i → F1 (ad q) 0 = .int (bOf ar' q) ∧ F1 (ad q) 1 = .int (zOf ar' q) := fun hl q hq => by
        have hi := hM.lt24 hl
        have hcq : cod q ∧ jb q = i := by
          rcases hq with e | e
          · rw [e]; exact ⟨cod_j hi, jb_j i hi⟩
          · rw [e]; exact ⟨cod_1 hi, jb_1 i⟩
        have hlq : ar 4 (jb q) ≠ 0 := by rw [hcq.2]; exact hl
        by_cases hm : q ∈ bl.map (fun x => x.1)
        · obtain ⟨⟨q', f, s⟩, hx, e⟩ := List.mem_map.mp hm
          simp only at e
          subst e
          obtain ⟨g, g1, g2⟩ := inL q' f s hx
          obtain ⟨c1, c2, c3, c4, c5, c6⟩ := b2.1 _ g1
          have := bch_at a3 (am ad (q', g, s)) (List.mem_map.mpr ⟨_, g1, rfl⟩)
          simp only [am] at this
          simp only at c3 c4
          rw [c3, c4]; exact this
        · have e : F1 (ad q) = F (ad q) := a4 _ (fun hm2 => by
            rw [am_fst] at hm2
            obtain ⟨q2, h2, e⟩ := List.mem_map.mp hm2
            obtain ⟨x, hx, e3⟩ := List.mem_map.mp h2
            have h5 := hlD x hx
            rw [e3] at h5
            have := hX.ib h5.1 h5.2 hcq.1 hlq e
            rw [this] at h2; exact hm h2) (by have := (hX.bk hcq.1 hlq).2.1; omega)
          obtain ⟨v1, v2, v3, v4, v5⟩ := hX.bk hcq.1 hlq
          rw [e, b5 q hcq.1 hm, ez]; exact ⟨v4, v5⟩
      refine ⟨fun z => ?_, fun z => ?_, fun z => ?_⟩
      · rw [F1n _ (by omega) (nk s11 (by decide)), r4]; exact hx.1 z
      · rw [r4] at z
        obtain ⟨c1, c2, c3, c4, c5⟩ := hx.2.1 z
        refine ⟨c1, c2, c3, fun k hk => ?_, fun q hq => ?_⟩
        · rw [F1n _ (by omega) (nk c1 (by decide)), c4 k hk]
          have : k = 0 ∨ k = 1 ∨ k = 2 ∨ k = 3 ∨ k = 4 ∨ k = 5 ∨ k = 6 ∨ k = 7 ∨ k = 8 := by omega
          rcases this with rfl | rfl | rfl | rfl | rfl | rfl | rfl | rfl | rfl <;> simp [jv, r4, r6, r7, r 8 (by omega) (by omega) (by omega), r 12 (by omega) (by omega) (by omega), r 13 (by omega) (by omega) (by omega)]
        · obtain ⟨v1, v2, v3, _⟩ := c5 q hq
          exact ⟨v1, v2, v3, bAt z q hq⟩
      · rw [r4] at z
        have hl : ar 4 i ≠ 0 := by rw [z]; decide
        have hi := hM.lt24 hl
        obtain ⟨K, gi, o, g1, g2, g3, g4, g5, g6, g7, g8, g9, g10, g11⟩ := hx.2.2 z
        have hj := (hx.2.1 hl).2.1
        refine ⟨K, gi, o, by rw [F1n _ (by omega) (nk (hx.2.1 hl).1 (by decide))]; exact g1, g2, g3, g4, g5, by rw [F1n _ (by omega) (nk g2 (by omega))]; exact g6, g7, by rw [r5]; exact g8, g9, by rw [r 14 (by omega) (by omega) (by omega)]; exact g10, fun z2 => ?_⟩
        obtain ⟨wy, n, bf, q1, q2, q3, q4, q5, q6, q7⟩ := g11 z2
        have sve : ∀ k, 22 ≤ k → k ≤ 31 → sv ar' i k = sv ar i k := fun k _ _ => by simp only [sv]; rw [r 19 (by omega) (by omega) (by omega)]
        by_cases hw : wy = 2 ∨ wy = 4
        · have hb : 0 < bz wy n := by have := q7.n2; unfold bz; rcases hw with rfl | rfl <;> simp <;> omega
          obtain ⟨bf2, e1, e2, e3⟩ := hM.buf hl q3 q1 q2 q4 hb
          obtain ⟨g, y1, y2⟩ := inL _ _ _ e3
          obtain ⟨c1, c2, c3, c4, c5, c6⟩ := b2.1 _ y1
          simp only at c3 c5
          rw [bOf_1] at c3
          have hb1 : bf < 2 ^ 31 := by have := (q5 hw).2; omega
          have hb2 : bf2 < 2 ^ 31 := by omega
          have ebf : bf = bf2 := (nI_eq hb1 hb2).mp (by rw [← (q5 hw).1, e1])
          refine ⟨wy, n, g, by rw [r6]; exact q1, q2, by rw [r5]; exact q3, q4, fun _ => ⟨c3, by omega⟩, q6, ?_⟩
          rw [b3]
          refine (q7.w (w' := pkW 0 bl (ar 3)) (bf' := g) (fun e t ht => ?_)).fi sve
          rw [ebf]
          refine y2 t ?_
          rw [e, show bz 4 n = 24 by simp [bz]]; exact ht
        · refine ⟨wy, n, bf, by rw [r6]; exact q1, q2, by rw [r5]; exact q3, q4, fun z3 => absurd z3 hw, q6, ?_⟩
          rw [b3]
          exact (q7.w (w' := pkW 0 bl (ar 3)) (bf' := bf) (fun e => absurd (Or.inr e) hw)).fi sve
end PK
