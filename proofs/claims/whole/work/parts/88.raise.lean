def pQ (Q : Nat → Int32) (da : Nat → Nat) (a : Nat) : Int32 := Q (da a - 200)
section RS
variable {T T' : Nat → Option (Nat × Nat)} {F F' F1 : Nat → Nat → Value} {nx nx' c nW nJ st st' i j sj fu p : Nat} {fi fi' : Nat → Int32} {ar ar' : Nat → Nat → Int32} {ad ad' da da' : Nat → Nat} {bl bl' : bL} {ql ql' l : List Nat} {w w' : Nat → Int32}
theorem enter_l {Q : Nat → Int32} (k5 : kd T (c + 5) = some 7) (hk : ∀ k, k = j ∨ k ∈ ql → kd T (ad (200 + k)) = some 4 ∧ da (ad (200 + k)) = 200 + k ∧ F1 (ad (200 + k)) 4 = .int (Q k)) (hn : ql.Nodup) (hj : j ∉ ql) (hc : jch T F1 (F1 (c + 5) 0) (ql.map (aj ad))) (hlen : ql.length < fu) :
    ∃ F2, fX7_enter fu (mkS T F1 nx) (c + 5) (some (ad (200 + j))) = some ((), mkS T F2 nx) ∧ jch T F2 (F2 (c + 5) 0) ((insQ Q j ql).map (aj ad)) ∧ (∀ q k, q ≠ c + 5 → (k ≠ 10 ∨ kd T q ≠ some 4) → F2 q k = F1 q k) := by
  have hinj : ∀ a b, (a = j ∨ a ∈ ql) → (b = j ∨ b ∈ ql) → ad (200 + a) = ad (200 + b) → a = b := fun a b ha hb e => by
    have d1 := (hk a ha).2.1
    have d2 := (hk b hb).2.1
    rw [e, d2] at d1; omega
  have hP : ∀ k, k = j ∨ k ∈ ql → pQ Q da (ad (200 + k)) = Q k := fun k h => by
    unfold pQ
    rw [(hk k h).2.1, show 200 + k - 200 = k by omega]
  obtain ⟨F2, a1, a2, a3⟩ := x_enter (fu := fu) (nx := nx) (F := F1) (P := pQ Q da) (l := ql.map (aj ad)) k5 (hk j (Or.inl rfl)).1 (by rw [hP j (Or.inl rfl)]; exact (hk j (Or.inl rfl)).2.2) (fun hm => by
    obtain ⟨k, h1, h2⟩ := List.mem_map.mp hm
    have := hinj k j (Or.inr h1) (Or.inl rfl) h2
    rw [this] at h1; exact hj h1) (nd_map hn (fun a ha b hb e => hinj a b (Or.inr ha) (Or.inr hb) e)) hc (fun b hb => by
    obtain ⟨k, h1, h2⟩ := List.mem_map.mp hb
    rw [← h2]
    show F1 (ad (200 + k)) 4 = .int (pQ Q da (ad (200 + k)))
    rw [hP k (Or.inr h1)]; exact (hk k (Or.inr h1)).2.2) (by rw [List.length_map]; exact hlen)
  rw [insQ_aj (Q := Q) ql hP] at a2
  exact ⟨F2, a1, a2, fun q k h1 h2 => jfr_F a3 (fun q hq => by
    obtain ⟨k, h1, h2⟩ := List.mem_map.mp hq
    rw [← h2]; exact (hk k (Or.inr h1)).1) (hk j (Or.inl rfl)).1 h1 h2⟩
theorem XL.of (h : XL T F c ar ad da j) (hj : j < 24) (hf : ∀ k, k ≤ 8 → F' (ad (200 + j)) k = jv ar' ad j k) (hb : ∀ q, q = j ∨ q = 100 + j → F' (ad q) = F (ad q)) (h5 : ar' 5 j = ar 5 j) (h6 : ar' 6 j = ar 6 j) (h9 : ar' 9 j = ar 9 j) (h10 : ar' 10 j = ar 10 j) : XL T F' c ar' ad da j := by
  obtain ⟨c1, c2, c3, c4, c5⟩ := h
  refine ⟨c1, c2, c3, hf, fun q hq => ?_⟩
  obtain ⟨b1, b2, b3, b4, b5⟩ := c5 q hq
  rw [hb q hq]
  refine ⟨b1, b2, b3, ?_, ?_⟩
  · rcases hq with rfl | rfl
    · rw [bOf_j _ hj] at b4 ⊢; rw [h9]; exact b4
    · rw [bOf_1] at b4 ⊢; rw [h10]; exact b4
  · rcases hq with rfl | rfl
    · rw [zOf_j _ hj] at b5 ⊢; rw [h5]; exact b5
    · rw [zOf_1] at b5 ⊢; unfold bsz at b5 ⊢; rw [h6, h5]; exact b5
theorem op_raise (h : INV T F nx c nW nJ st fi ar ad da bl ql) (hfu : 3000 < fu) (hst : st < 2 ^ 31) (x y : Int32) : ∃ r S1 S2, fX9_raise fu (mkS T F nx) c x y = some (r, S1) ∧ fX10_raise fu S1 (c + 6) x y = some (r, S2) ∧ OUT c nW nJ (st + 1) S2 := by
  obtain ⟨hT, hF, hM, hX⟩ := id h
  have kc := hX.1.2.1
  have k5 := hX.1.2.2.2.2.2.2.2.2.2.2.2.2
  have f1 := hM.1.2.1
  have hJ := hM.1.2.2.2.1
  have hA := hX.1.1
  have hQ := hM.2.2.2.2.2.2
  rcases jcase nJ ar x with hb | ⟨j, hj, rfl, hl⟩
  · refine ⟨-1, mkS T F nx, mkS T F nx, ?_, ?_, OUT.same h (by omega)⟩
    · simp only [fX9_raise, rcv_mk kc, x_find0 hX hJ hb, Option.bind_some, bn2_s, zz_0, zz_1, if_true, if_false, ite_true, ite_false, vI_i, vR_n, vR_r, vR_v, reduceCtorEq]
    · rw [h.w]
      simp only [fX10_raise, rcv_m hT, m_isJob0 hT f1 hJ hb, Option.bind_some, bn2_s, zz_0, zz_1, if_true, if_false, ite_true, ite_false, vI_i, vR_n, vR_r, vR_v, reduceCtorEq]
  · have hj' : j < 24 := by omega
    have hL := (hX.2.2.2.1 j).2.1 hl
    have jl := hL.2.1
    obtain ⟨s, n, wy, p, n1, n2, n3, n4, n5, n6, n7, n8⟩ := hM.2.2.1 j hl
    have e5 : F (ad (200 + j)) 5 = .int (ar 4 j) := hL.2.2.2.1 5 (by omega)
    by_cases y1 : y < 0
    · refine ⟨-4, mkS T F nx, mkS T F nx, ?_, ?_, OUT.same h (by omega)⟩
      · simp only [fX9_raise, rcv_mk kc, x_find1 hX hJ hj hl, x_isPriority, y1, Option.bind_some, bn2_s, zz_0, zz_1, if_true, if_false, ite_true, ite_false, vI_i, vR_n, vR_r, vR_v, reduceCtorEq]
      · rw [h.w]
        simp +decide only [fX10_raise, Option.bind_some, bn2_s, zz_0, zz_1, if_true, if_false, ite_true, ite_false, vI_i, vR_n, vR_r, vR_v, reduceCtorEq, gI_m hT, gR_m hT, rcv_m hT, pV_m hT, aI_24 hT, sV_24 hT, aI_3 hT, sV_3 hT, aI_18 hT, sV_18 hT, aI_19 hT, sV_19 hT, aI_mZ hT, sV_mZ hT, ui_s, ui_n, ua_s, ua_k, m_isJob1 hT f1 hJ hj hl, y1]
    · by_cases y2 : 3 < y
      · have y3 : ¬ y ≤ 3 := i32_nle.mpr y2
        refine ⟨-4, mkS T F nx, mkS T F nx, ?_, ?_, OUT.same h (by omega)⟩
        · simp only [fX9_raise, rcv_mk kc, x_find1 hX hJ hj hl, x_isPriority, y1, y2, Option.bind_some, bn2_s, zz_0, zz_1, if_true, if_false, ite_true, ite_false, vI_i, vR_n, vR_r, vR_v, reduceCtorEq]
        · rw [h.w]
          simp +decide only [fX10_raise, Option.bind_some, bn2_s, zz_0, zz_1, if_true, if_false, ite_true, ite_false, vI_i, vR_n, vR_r, vR_v, reduceCtorEq, gI_m hT, gR_m hT, rcv_m hT, pV_m hT, aI_24 hT, sV_24 hT, aI_3 hT, sV_3 hT, aI_18 hT, sV_18 hT, aI_19 hT, sV_19 hT, aI_mZ hT, sV_mZ hT, ui_s, ui_n, ua_s, ua_k, m_isJob1 hT f1 hJ hj hl, y1, y3]
      · have y3 : y ≤ 3 := i32_nlt.mp y2
        obtain ⟨py, py1, py2⟩ := nI_of2 (n := 3) rfl y1 y3
        have hprio : fX9_isPriority fu (mkS T F nx) y = some (1, mkS T F nx) := by rw [x_isPriority, if_neg y1, if_neg y2]
        have hs0 : s ≠ 0 := fun z => hl (by rw [n1, z]; rfl)
        obtain ⟨F1, a1, a2, a3⟩ := hX.leave (fu := fu) (F1 := F) hM hl hfu (fun _ _ => rfl)
        have nk : ∀ {q k : Nat}, kd T q = some k → k ≠ 4 → kd T q ≠ some 4 := fun h1 h2 => by rw [h1]; intro z; injection z with z; omega
        have u5 : u2 F1 (ad (200 + j)) 4 (.int y) (ad (200 + j)) 5 = .int (ar 4 j) := by rw [u2_k (by decide), a3 _ _ (by omega) (Or.inl (by decide))]; exact e5
        have g4 : ∀ x v k m, k ≠ 7 → k ≠ 11 → ua (ua ar 7 j x) 11 j v k m = ar k m := fun x v k m a b => by rw [ua_k _ _ _ _ b, ua_k _ _ _ _ a]
        /- the common end -/
        have fin : ∀ (F' : Nat → Nat → Value) (fi' : Nat → Int32) (ar' : Nat → Nat → Int32) (ql' : List Nat) (st' : Nat), st' ≤ st + 1 → (∀ q k, q ≠ c + 5 → q ≠ ad (200 + j) → (k ≠ 10 ∨ kd T q ≠ some 4) → F' q k = F q k) → (∀ k, k ≤ 9 → F' (ad (200 + j)) k = if k = 4 then .int y else F (ad (200 + j)) k) → jch T F' (F' (c + 5) 0) (ql'.map (aj ad)) → MF nW nJ st' fi' → (∀ k, k ≠ 16 → fi' k = fi k) → QL ar' st' ql' → (∀ k, k ∈ ql' → k < 24) → (∀ k m, k ≠ 7 → k ≠ 11 → ar' k m = ar k m) → (∀ k m, m ≠ j → ar' k m = ar k m) → ar' 7 j = y →
            mF F' (c + 6) fi ar = F' ∧ OUT c nW nJ (st + 1) (mw T F' nx (c + 6) fi' ar') := by
          intro F' fi' ar' ql' st' hst' hF1 hF2 hjc hMF hfi hQ' hq24 ha1 ha2 ha7
          have en : ∀ q, q ≠ c + 5 → q ≠ ad (200 + j) → kd T q ≠ some 4 → F' q = F q := fun q h1 h2 h3 => by funext k; exact hF1 q k h1 h2 (Or.inr h3)
          refine ⟨mF_keep hF (fun q q1 q2 => en q (by omega) (by omega) (mT_n4 hT q1 (by omega))), ?_⟩
          have gr : ∀ k, k ≠ 7 → k ≠ 11 → ar' k = ar k := fun k a b => by funext m; exact ha1 k m a b
          have hM' : MI nW nJ st' fi' ar' bl ql' := hM.upj hMF hl (fun k hk => ha2 4 k hk) ⟨s, n, wy, py, by rw [ha1 4 j (by decide) (by decide)]; exact n1, n2, by rw [ha1 5 j (by decide) (by decide)]; exact n3, n4, by rw [ha1 6 j (by decide) (by decide)]; exact n5, n6, by rw [ha7]; exact py2, py1⟩ (by rw [ha1 4 j (by decide) (by decide)]; exact hl) (fun k hk => ha2 7 k hk) (gr 5 (by decide) (by decide)) (gr 6 (by decide) (by decide)) (gr 9 (by decide) (by decide)) (gr 10 (by decide) (by decide)) hQ'
          refine ⟨T, _, nx, fi', ar', ad, da, bl, ql', st', hst', rfl, INV.mk hT hM' ?_⟩
          refine hX.line (sj := c) (j := j) hM (fun _ _ z => z) hX.2.2.2.2.1 hX.2.2.2.2.2 ?_ hjc (fun _ _ => rfl) (fun _ _ => rfl) (fun _ _ _ => rfl) (fun k _ hk => ?_) (fun q hq => ?_) (fun q k _ _ q5 qj _ hk => hF1 q k q5 qj hk) (fun k hk => by have := hq24 k hk; omega) hl (fun k hk => ?_) (fun k hk m m1 _ => ha2 m k hk) (fun k _ t _ => ha1 _ _ (by decide) (by decide)) (fun k hk k2 k6 bf b1 b2 t ht => by rw [gr 3 (by decide) (by decide)]) ?_
          · have ec := en c (by omega) (by omega) (nk kc (by decide))
            exact hX.1.cg (fun k _ => by rw [ec]) (by rw [ec, hfi 15 (by decide)]; exact hX.1.2.2.2.2.2.2.1) (by rw [ec, hfi 17 (by decide)]; exact hX.1.2.2.2.2.2.2.2.1) (en _ (by omega) (by omega) (nk hA.1 (by decide))) (fun k _ => by rw [en _ (by omega) (by omega) (nk hA.2.2.2.2.1 (by decide))]) (by rw [en _ (by omega) (by omega) (nk hA.2.1 (by decide)), gr 3 (by decide) (by decide)]; exact hA.2.2.2.2.2.2.2) (hfi 2 (by decide))
          · obtain ⟨K, gi, o, _, _, _, g, _⟩ := (hX.2.2.2.1 k).2.2 hk
            omega
          · rintro rfl
            rw [kc] at hq
            simp at hq
          · rw [ha2 4 k (by omega)]; exact hM.2.1 k hk
          · have s11 := hX.1.2.2.2.2.2.2.2.2.2.2.1
            refine ⟨fun z => ?_, fun z => ?_, fun z => ?_⟩
            · rw [en _ (by omega) (by omega) (nk s11 (by decide)), ha1 4 j (by decide) (by decide)]
              exact (hX.2.2.2.1 j).1 z
            · refine hL.of hj' (fun k hk => ?_) (fun q hq => ?_) (ha1 5 j (by decide) (by decide)) (ha1 6 j (by decide) (by decide)) (ha1 9 j (by decide) (by decide)) (ha1 10 j (by decide) (by decide))
              · rw [hF2 k (by omega)]
                have hv : jv ar' ad j k = if k = 4 then .int y else jv ar ad j k := by
                  have : k = 0 ∨ k = 1 ∨ k = 2 ∨ k = 3 ∨ k = 4 ∨ k = 5 ∨ k = 6 ∨ k = 7 ∨ k = 8 := by omega
                  rcases this with rfl | rfl | rfl | rfl | rfl | rfl | rfl | rfl | rfl <;> simp [jv, ha7, gr 4 (by decide) (by decide), gr 6 (by decide) (by decide), gr 8 (by decide) (by decide), gr 12 (by decide) (by decide), gr 13 (by decide) (by decide)]
                rw [hv]
                split
                · rfl
                · exact hL.2.2.2.1 k hk
              · obtain ⟨b1, b2, b3, b4, b5⟩ := hL.2.2.2.2 q hq
                exact en (ad q) (by omega) (fun z => by rw [z, hL.1] at b1; exact absurd b1 (by decide)) (nk b1 (by decide))
            · rw [ha1 4 j (by decide) (by decide)] at z
              have hs := (hX.2.2.2.1 j).2.2 z
              obtain ⟨K, gi, o, _, hk, hK, hg, _⟩ := id hs
              refine hs.cg2 (ha1 5 j (by decide) (by decide)) (ha1 6 j (by decide) (by decide)) (ha1 10 j (by decide) (by decide)) (ha1 14 j (by decide) (by decide)) (fun t _ => ha1 _ _ (by decide) (by decide)) ?_ ?_ (gr 3 (by decide) (by decide))
              · rw [hF2 9 (by omega), if_neg (by decide)]
              · exact en _ (by omega) (fun z => by rw [z, hL.1] at hk; injection hk with hk; omega) (nk hk (by omega))
        have hqr : QL (ua ar 4 j 0) st (ql.filter (fun k => !(k == j))) := hQ.rm (fun k hk => ua_j _ _ _ _ hk) (by rw [ua_s]; decide) (fun k hk => ua_j _ _ _ _ hk) (fun k hk => ua_j _ _ _ _ hk)
        have hfl : ∀ k, k ∈ ql.filter (fun k => !(k == j)) → k < 24 := fun k hk => by have := hM.qlt k (List.mem_filter.mp hk).1; omega
        rcases (show s = 1 ∨ s = 2 ∨ s = 3 ∨ s = 4 by omega) with rfl | rfl | rfl | rfl
        · have cs : ar 4 j = 1 := n1
          obtain ⟨w1, w2⟩ := fin (u2 F1 (ad (200 + j)) 4 (.int y)) fi (ua ar 7 j y) (ql.filter (fun k => !(k == j))) st (by omega) (fun q k h1 h2 h3 => by rw [u2_q h2]; exact a3 q k h1 h3) (fun k hk => by
            by_cases e : k = 4
            · subst e; rw [u2_s, if_pos rfl]
            · rw [u2_k e, if_neg e]; exact a3 _ _ (by omega) (Or.inl (by omega))) (by rw [u2_q (by omega)]; exact jch_congr a2 (fun q hq => u2_k (by decide))) hM.1 (fun _ _ => rfl) (hQ.rm (fun k hk => ua_j _ _ _ _ hk) (by rw [ua_k _ _ _ _ (by decide), cs]; decide) (fun k hk => ua_j _ _ _ _ hk) (fun k hk => ua_j _ _ _ _ hk)) hfl (fun k m a b => ua_k _ _ _ _ a) (fun k m a => ua_j _ _ _ _ a) (ua_s _ _ _ _)
          refine ⟨0, mkS T (u2 F1 (ad (200 + j)) 4 (.int y)) nx, _, ?_, ?_, w2⟩
          · rw [cs] at u5
            simp +decide only [fX9_raise, fX9_raise_41, rcv_mk kc, x_find1 hX hJ hj hl, hprio, gI_mk hL.1, e5, cs, gR_mk kc, hX.1.2.2.2.2.1, rcv_mk k5, a1, pV_mk hL.1, u5, Option.bind_some, bn2_s, zz_0, zz_1, if_true, if_false, ite_true, ite_false, vI_i, vR_n, vR_r, vR_v, reduceCtorEq]
          · rw [show mkS T (u2 F1 (ad (200 + j)) 4 (.int y)) nx = mw T (u2 F1 (ad (200 + j)) 4 (.int y)) nx (c + 6) fi ar by show _ = mkS T _ nx; rw [w1]]
            simp +decide only [fX10_raise, Option.bind_some, bn2_s, zz_0, zz_1, if_true, if_false, ite_true, ite_false, vI_i, vR_n, vR_r, vR_v, reduceCtorEq, gI_m hT, gR_m hT, rcv_m hT, pV_m hT, aI_24 hT, sV_24 hT, aI_3 hT, sV_3 hT, aI_18 hT, sV_18 hT, aI_19 hT, sV_19 hT, aI_mZ hT, sV_mZ hT, ui_s, ui_n, ua_s, ua_k, m_isJob1 hT f1 hJ hj hl, hj', cs, y1, y3]
        · have cs : ar 4 j = 2 := n1
          have hnj : j ∉ ql.filter (fun k => !(k == j)) := fun z => by simpa using (List.mem_filter.mp z).2
          obtain ⟨F3, b1, b2, b3⟩ := enter_l (fu := fu) (nx := nx) (c := c) (T := T) (F1 := u2 F1 (ad (200 + j)) 4 (.int y)) (ad := ad) (da := da) (j := j) (ql := ql.filter (fun k => !(k == j))) (Q := ua ar 7 j y 7) k5 (fun k hk => by
            have hkl : ar 4 k ≠ 0 := by
              rcases hk with e | e
              · rw [e]; exact hl
              · rw [(hQ.2.1 k).mp (List.mem_filter.mp e).1]; decide
            have hLk := (hX.2.2.2.1 k).2.1 hkl
            refine ⟨hLk.1, hLk.2.2.1, ?_⟩
            by_cases e : k = j
            · subst e; rw [u2_s, ua_s]
            · rw [u2_q (fun z => e (hX.ij hkl hl z)), a3 _ _ (by have := hLk.2.1; omega) (Or.inl (by decide)), ua_j _ _ _ _ e]; exact hLk.2.2.2.1 4 (by omega)) hqr.1 hnj (by rw [u2_q (by omega)]; exact jch_congr a2 (fun q hq => u2_k (by decide))) (by have := hM.qlen; have := List.length_filter_le (fun k => !(k == j)) ql; omega)
          have hq2 : QL (ua (ua ar 7 j y) 11 j (fi 16)) (st + 1) (insQ (ua ar 7 j y 7) j (ql.filter (fun k => !(k == j)))) := by
            have := hqr.add (ar' := ua (ua ar 7 j y) 11 j (fi 16)) (j := j) (by rw [ua_s]; decide) (fun k hk => by rw [g4 _ _ _ _ (by decide) (by decide), ua_j _ _ _ _ hk]) (by rw [g4 _ _ _ _ (by decide) (by decide)]; exact cs) (fun k hk => by rw [ua_j _ _ _ _ hk, ua_j _ _ _ _ hk, ua_j _ _ _ _ hk]) (fun k hk => by rw [ua_j _ _ _ _ hk, ua_j _ _ _ _ hk, ua_j _ _ _ _ hk]) (by rw [ua_s]; exact hM.1.2.2.2.2.2.2.2) hst
            rw [show ua (ua ar 7 j y) 11 j (fi 16) 7 = ua ar 7 j y 7 by funext m; exact ua_k _ _ _ _ (by decide)] at this
            exact this
          obtain ⟨w1, w2⟩ := fin F3 (ui fi 16 (fi 16 + 1)) (ua (ua ar 7 j y) 11 j (fi 16)) _ (st + 1) (by omega) (fun q k h1 h2 h3 => by rw [b3 q k h1 h3, u2_q h2]; exact a3 q k h1 h3) (fun k hk => by
            rw [b3 _ _ (by omega) (Or.inl (by omega))]
            by_cases e : k = 4
            · subst e; rw [u2_s, if_pos rfl]
            · rw [u2_k e, if_neg e]; exact a3 _ _ (by omega) (Or.inl (by omega))) b2 (by
            obtain ⟨m1, m2, m3, m4, m5, m6, m7, m8⟩ := hM.1
            exact ⟨by rw [ui_n _ _ (by decide)]; exact m1, by rw [ui_n _ _ (by decide)]; exact m2, m3, m4, m5, m6, by rw [ui_n _ _ (by decide)]; exact m7, by rw [ui_s, m8]; exact nI_ad1 st⟩) (fun k hk => ui_n _ _ hk) hq2 (fun k hk => by
            rcases mem_insQ.mp hk with e | e
            · omega
            · exact hfl k e) (fun k m a b => g4 _ _ _ _ a b) (fun k m a => by rw [ua_j _ _ _ _ a, ua_j _ _ _ _ a]) (by rw [ua_k _ _ _ _ (by decide), ua_s])
          refine ⟨0, mkS T F3 nx, _, ?_, ?_, w2⟩
          · rw [cs] at u5
            simp +decide only [fX9_raise, fX9_raise_41, rcv_mk kc, x_find1 hX hJ hj hl, hprio, gI_mk hL.1, e5, cs, gR_mk kc, hX.1.2.2.2.2.1, rcv_mk k5, a1, pV_mk hL.1, u5, Option.bind_some, bn2_s, zz_0, zz_1, if_true, if_false, ite_true, ite_false, vI_i, vR_n, vR_r, vR_v, reduceCtorEq]
            have ec : ∀ k, u2 F1 (ad (200 + j)) 4 (.int y) c k = F c k := fun k => by rw [u2_q (by omega)]; exact a3 _ _ (by omega) (Or.inr (nk kc (by decide)))
            simp +decide only [ec, hX.1.2.2.2.2.1, b1, rcv_mk k5, Option.bind_some, bn2_s, zz_0, zz_1, if_true, if_false, ite_true, ite_false, vI_i, vR_n, vR_r, vR_v, reduceCtorEq]
          · rw [show mkS T F3 nx = mw T F3 nx (c + 6) fi ar by show _ = mkS T _ nx; rw [w1]]
            have mg := m_gte (fu := fu) (G := F3) (nx := nx) (fi := fi) (ar := ua ar 7 j y) hT hj'
            simp +decide only [fX10_raise, Option.bind_some, bn2_s, zz_0, zz_1, if_true, if_false, ite_true, ite_false, vI_i, vR_n, vR_r, vR_v, reduceCtorEq, gI_m hT, gR_m hT, rcv_m hT, pV_m hT, aI_24 hT, sV_24 hT, aI_3 hT, sV_3 hT, aI_18 hT, sV_18 hT, aI_19 hT, sV_19 hT, aI_mZ hT, sV_mZ hT, ui_s, ui_n, ua_s, ua_k, m_isJob1 hT f1 hJ hj hl, hj', cs, y1, y3, mg]
        · have cs : ar 4 j = 3 := n1
          refine ⟨-3, mkS T F nx, mkS T F nx, ?_, ?_, OUT.same h (by omega)⟩
          · simp +decide only [fX9_raise, rcv_mk kc, x_find1 hX hJ hj hl, hprio, gI_mk hL.1, e5, cs, Option.bind_some, bn2_s, zz_0, zz_1, if_true, if_false, ite_true, ite_false, vI_i, vR_n, vR_r, vR_v, reduceCtorEq]
          · rw [h.w]
            simp +decide only [fX10_raise, Option.bind_some, bn2_s, zz_0, zz_1, if_true, if_false, ite_true, ite_false, vI_i, vR_n, vR_r, vR_v, reduceCtorEq, gI_m hT, gR_m hT, rcv_m hT, pV_m hT, aI_24 hT, sV_24 hT, aI_3 hT, sV_3 hT, aI_18 hT, sV_18 hT, aI_19 hT, sV_19 hT, aI_mZ hT, sV_mZ hT, ui_s, ui_n, ua_s, ua_k, m_isJob1 hT f1 hJ hj hl, hj', cs, y1, y3]
        · have cs : ar 4 j = 4 := n1
          refine ⟨-3, mkS T F nx, mkS T F nx, ?_, ?_, OUT.same h (by omega)⟩
          · simp +decide only [fX9_raise, rcv_mk kc, x_find1 hX hJ hj hl, hprio, gI_mk hL.1, e5, cs, Option.bind_some, bn2_s, zz_0, zz_1, if_true, if_false, ite_true, ite_false, vI_i, vR_n, vR_r, vR_v, reduceCtorEq]
          · rw [h.w]
            simp +decide only [fX10_raise, Option.bind_some, bn2_s, zz_0, zz_1, if_true, if_false, ite_true, ite_false, vI_i, vR_n, vR_r, vR_v, reduceCtorEq, gI_m hT, gR_m hT, rcv_m hT, pV_m hT, aI_24 hT, sV_24 hT, aI_3 hT, sV_3 hT, aI_18 hT, sV_18 hT, aI_19 hT, sV_19 hT, aI_mZ hT, sV_mZ hT, ui_s, ui_n, ua_s, ua_k, m_isJob1 hT f1 hJ hj hl, hj', cs, y1, y3]
end RS
