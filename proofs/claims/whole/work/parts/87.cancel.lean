section CN
variable {T T' : Nat → Option (Nat × Nat)} {F F' F1 : Nat → Nat → Value} {nx nx' c nW nJ st st' i j sj fu p : Nat} {fi fi' : Nat → Int32} {ar ar' : Nat → Nat → Int32} {ad ad' da da' : Nat → Nat} {bl bl' : bL} {ql ql' l : List Nat} {w w' : Nat → Int32}
theorem u2_q {a k q : Nat} {v : Value} (h : q ≠ a) : u2 F a k v q = F q := by funext k'; simp [u2, h]
theorem u2_k {a k q k' : Nat} {v : Value} (h : k' ≠ k) : u2 F a k v q k' = F q k' := by simp [u2, h]
theorem u2_s {a k : Nat} {v : Value} : u2 F a k v a k = v := by simp [u2]
/-- the line without j -/
theorem XI.leave (hX : XI T F nx c nW nJ fi ar ad da bl ql) (hM : MI nW nJ st fi ar bl ql) (hl : ar 4 j ≠ 0) (hfu : 3000 < fu) (hF : ∀ q, q ≠ c → F1 q = F q) : ∃ F2, fX7_leave fu (mkS T F1 nx) (c + 5) (some (ad (200 + j))) = some ((), mkS T F2 nx) ∧ jch T F2 (F2 (c + 5) 0) ((ql.filter (fun k => !(k == j))).map (aj ad)) ∧ (∀ q k, q ≠ c + 5 → (k ≠ 10 ∨ kd T q ≠ some 4) → F2 q k = F1 q k) := by
  have hQ := hM.2.2.2.2.2.2
  have hL := (hX.2.2.2.1 j).2.1 hl
  have k5 := hX.1.2.2.2.2.2.2.2.2.2.2.2.2
  have hj : jch T F1 (F1 (c + 5) 0) (ql.map (aj ad)) := by
    rw [hF (c + 5) (by omega)]
    exact jch_congr hX.2.2.1 (fun q hq => by rw [hF q (by have := (hX.qj hQ q hq).2; omega)])
  obtain ⟨F2, a1, a2, a3⟩ := x_leave (fu := fu) (nx := nx) (F := F1) k5 hL.1 (hX.qnd hQ) hj (by rw [List.length_map]; have := hM.qlen; omega)
  rw [filter_aj hX hl ql (fun k hk => by rw [(hQ.2.1 k).mp hk]; decide)] at a2
  exact ⟨F2, a1, a2, fun q k h1 h2 => jfr_F a3 (fun q hq => (hX.qj hQ q hq).1) hL.1 h1 h2⟩
theorem op_cancel (h : INV T F nx c nW nJ st fi ar ad da bl ql) (hfu : 3000 < fu) (x : Int32) : ∃ r S1 S2, fX9_cancel fu (mkS T F nx) c x = some (r, S1) ∧ fX10_cancel fu S1 (c + 6) x = some (r, S2) ∧ OUT c nW nJ st S2 := by
  obtain ⟨hT, hF, hM, hX⟩ := id h
  have kc := hX.1.2.1
  have k5 := hX.1.2.2.2.2.2.2.2.2.2.2.2.2
  have f1 := hM.1.2.1
  have hJ := hM.1.2.2.2.1
  have hA := hX.1.1
  have hQ := hM.2.2.2.2.2.2
  rcases jcase nJ ar x with hb | ⟨j, hj, rfl, hl⟩
  · refine ⟨-1, mkS T F nx, mkS T F nx, ?_, ?_, OUT.same h (Nat.le_refl _)⟩
    · simp only [fX9_cancel, rcv_mk kc, x_find0 hX hJ hb, Option.bind_some, bn2_s, zz_0, zz_1, if_true, if_false, ite_true, ite_false, vI_i, vR_n, vR_r, vR_v, reduceCtorEq]
    · rw [h.w]
      simp only [fX10_cancel, rcv_m hT, m_isJob0 hT f1 hJ hb, Option.bind_some, bn2_s, zz_0, zz_1, if_true, if_false, ite_true, ite_false, vI_i, vR_n, vR_r, vR_v, reduceCtorEq]
  · have hj' : j < 24 := by omega
    have hL := (hX.2.2.2.1 j).2.1 hl
    obtain ⟨s, n, wy, p, n1, n2, n3, n4, n5, n6, n7, n8⟩ := hM.2.2.1 j hl
    have e5 : F (ad (200 + j)) 5 = .int (ar 4 j) := hL.2.2.2.1 5 (by omega)
    by_cases cs : ar 4 j = 2
    · obtain ⟨F1, a1, a2, a3⟩ := hX.leave (fu := fu) (F1 := F) hM hl hfu (fun _ _ => rfl)
      have jl := hL.2.1
      have e1 : ∀ q k, q ≠ c + 5 → q ≠ ad (200 + j) → (k ≠ 10 ∨ kd T q ≠ some 4) → u2 F1 (ad (200 + j)) 5 (.int 4) q k = F q k := fun q k h1 h2 h3 => by rw [u2_q h2]; exact a3 q k h1 h3
      have nk : ∀ {q k : Nat}, kd T q = some k → k ≠ 4 → kd T q ≠ some 4 := fun h1 h2 => by rw [h1]; intro z; injection z with z; omega
      have en : ∀ q, q ≠ c + 5 → q ≠ ad (200 + j) → kd T q ≠ some 4 → u2 F1 (ad (200 + j)) 5 (.int 4) q = F q := fun q h1 h2 h3 => by funext k; exact e1 q k h1 h2 (Or.inr h3)
      have hw : mF (u2 F1 (ad (200 + j)) 5 (.int 4)) (c + 6) fi ar = u2 F1 (ad (200 + j)) 5 (.int 4) := mF_keep hF (fun q q1 q2 => en q (by omega) (by omega) (mT_n4 hT q1 (by omega)))
      refine ⟨0, mkS T (u2 F1 (ad (200 + j)) 5 (.int 4)) nx, mw T (u2 F1 (ad (200 + j)) 5 (.int 4)) nx (c + 6) fi (ua ar 4 j 4), ?_, ?_, ?_⟩
      · simp +decide only [fX9_cancel, rcv_mk kc, x_find1 hX hJ hj hl, gI_mk hL.1, e5, cs, gR_mk kc, hX.1.2.2.2.2.1, rcv_mk k5, a1, pV_mk hL.1, Option.bind_some, bn2_s, zz_0, zz_1, if_true, if_false, ite_true, ite_false, vI_i, vR_n, vR_r, vR_v, reduceCtorEq]
      · rw [show mkS T (u2 F1 (ad (200 + j)) 5 (.int 4)) nx = mw T (u2 F1 (ad (200 + j)) 5 (.int 4)) nx (c + 6) fi ar by show _ = mkS T _ nx; rw [hw]]
        simp +decide only [fX10_cancel, Option.bind_some, bn2_s, zz_0, zz_1, if_true, if_false, ite_true, ite_false, vI_i, vR_n, vR_r, vR_v, reduceCtorEq, gI_m hT, gR_m hT, rcv_m hT, pV_m hT, aI_24 hT, sV_24 hT, aI_3 hT, sV_3 hT, aI_18 hT, sV_18 hT, aI_19 hT, sV_19 hT, aI_mZ hT, sV_mZ hT, ui_s, ui_n, ua_s, ua_k, m_isJob1 hT f1 hJ hj hl, hj', cs]
      · have g4 : ∀ k, k ≠ j → ua ar 4 j 4 4 k = ar 4 k := fun k hk => ua_j _ _ _ _ hk
        have gn : ∀ k, k ≠ 4 → ua ar 4 j 4 k = ar k := fun k hk => by funext q; exact ua_k _ _ _ _ hk
        have hQ' : QL (ua ar 4 j 4) st (ql.filter (fun k => !(k == j))) := hQ.rm g4 (by rw [ua_s]; decide) (fun k hk => ua_j _ _ _ _ hk) (fun k hk => ua_j _ _ _ _ hk)
        have hM' : MI nW nJ st fi (ua ar 4 j 4) bl (ql.filter (fun k => !(k == j))) := hM.upj hM.1 hl g4 ⟨4, n, wy, p, by rw [ua_s]; rfl, by omega, by rw [gn 5 (by decide)]; exact n3, n4, by rw [gn 6 (by decide)]; exact n5, n6, by rw [gn 7 (by decide)]; exact n7, n8⟩ (by rw [ua_s]; decide) (fun k hk => ua_j _ _ _ _ hk) (gn 5 (by decide)) (gn 6 (by decide)) (gn 9 (by decide)) (gn 10 (by decide)) hQ'
        refine ⟨T, _, nx, fi, _, ad, da, bl, _, st, Nat.le_refl _, rfl, INV.mk hT hM' ?_⟩
        refine hX.line (sj := c) (j := j) hM (fun _ _ z => z) hX.2.2.2.2.1 hX.2.2.2.2.2 ?_ ?_ (fun _ _ => rfl) (fun _ _ => rfl) (fun _ _ _ => rfl) (fun k _ hk => ?_) (fun q hq => ?_) (fun q k _ _ q5 qj _ hk => e1 q k q5 qj hk) (fun k hk => by have := hM.qlt k (List.mem_filter.mp hk).1; omega) hl (fun k hk => ?_) (fun k hk m m1 _ => ua_j _ _ _ _ hk) (fun k _ t _ => ua_k _ _ _ _ (by decide)) (fun k hk k2 k6 bf b1 b2 t ht => by rw [gn 3 (by decide)]) ?_
        · exact hX.1.cg (fun k _ => by rw [en c (by omega) (by omega) (nk kc (by decide))]) (by rw [en c (by omega) (by omega) (nk kc (by decide))]; exact hX.1.2.2.2.2.2.2.1) (by rw [en c (by omega) (by omega) (nk kc (by decide))]; exact hX.1.2.2.2.2.2.2.2.1) (en _ (by omega) (by omega) (nk hA.1 (by decide))) (fun k _ => by rw [en _ (by omega) (by omega) (nk hA.2.2.2.2.1 (by decide))]) (by rw [en _ (by omega) (by omega) (nk hA.2.1 (by decide)), gn 3 (by decide)]; exact hA.2.2.2.2.2.2.2) rfl
        · rw [u2_q (by omega)]
          exact jch_congr a2 (fun q hq => u2_k (by decide))
        · obtain ⟨K, gi, o, _, _, _, g, _⟩ := (hX.2.2.2.1 k).2.2 hk
          omega
        · rintro rfl
          rw [kc] at hq
          simp at hq
        · rw [g4 k (by omega)]; exact hM.2.1 k hk
        · have s11 := hX.1.2.2.2.2.2.2.2.2.2.2.1
          refine ⟨fun z => ?_, fun z => ?_, fun z => ?_⟩
          · rw [en _ (by omega) (by omega) (nk s11 (by decide)), ua_s, if_neg (by decide)]
            have := (hX.2.2.2.1 j).1 z
            rw [if_neg hl] at this; exact this
          · obtain ⟨c1, c2, c3, c4, c5⟩ := hL
            refine ⟨c1, c2, c3, fun k hk => ?_, fun q hq => ?_⟩
            · rw [jv_4 _ hk]
              by_cases e : k = 5
              · subst e; rw [if_pos rfl, u2_s]
              · rw [if_neg e, u2_k e, a3 _ _ (by omega) (Or.inl (by omega))]; exact c4 k hk
            · obtain ⟨b1, b2, b3, b4, b5⟩ := c5 q hq
              have eq := en (ad q) (by omega) (fun z => by rw [z, c1] at b1; exact absurd b1 (by decide)) (nk b1 (by decide))
              have eb : bOf (ua ar 4 j 4) q = bOf ar q := by unfold bOf; rw [gn 9 (by decide), gn 10 (by decide)]
              have ez : zOf (ua ar 4 j 4) q = zOf ar q := zOf_c (gn 5 (by decide)) (gn 6 (by decide)) q
              exact ⟨b1, b2, b3, by rw [eq, eb]; exact b4, by rw [eq, ez]; exact b5⟩
          · rw [ua_s] at z; exact absurd z (by decide)
    · refine ⟨-3, mkS T F nx, mkS T F nx, ?_, ?_, OUT.same h (Nat.le_refl _)⟩
      · simp only [fX9_cancel, rcv_mk kc, x_find1 hX hJ hj hl, gI_mk hL.1, e5, cs, Option.bind_some, bn2_s, zz_0, zz_1, if_true, if_false, ite_true, ite_false, vI_i, vR_n, vR_r, vR_v, reduceCtorEq]
      · rw [h.w]
        simp +decide only [fX10_cancel, Option.bind_some, bn2_s, zz_0, zz_1, if_true, if_false, ite_true, ite_false, vI_i, vR_n, vR_r, vR_v, reduceCtorEq, gI_m hT, gR_m hT, rcv_m hT, pV_m hT, aI_24 hT, sV_24 hT, aI_3 hT, sV_3 hT, aI_18 hT, sV_18 hT, aI_19 hT, sV_19 hT, aI_mZ hT, sV_mZ hT, ui_s, ui_n, ua_s, ua_k, m_isJob1 hT f1 hJ hj hl, hj', cs]
end CN
