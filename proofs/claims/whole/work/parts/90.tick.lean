theorem i32_s (x : Int32) : x + 1 - 1 = x := by
  rw [Int32.sub_eq_add_neg, Int32.add_assoc]; exact Int32.add_zero x
section TK
variable {T T' : Nat → Option (Nat × Nat)} {F F' F1 F2 G : Nat → Nat → Value} {nx nx2 c nW nJ st st' i j fu K o qu z : Nat} {fi fi1 fi' gi : Nat → Int32} {ar ar' : Nat → Nat → Int32} {ad ad' da da' : Nat → Nat} {bl bl' : bL} {ql ql' l : List Nat} {w w' : Nat → Int32}
theorem XI.st0 (h : XI T F nx c nW nJ fi ar ad da bl ql) (hM : MI nW nJ st fi ar bl ql) (hS : ST T F' c nW nJ fi' (ar 3)) (hF : ∀ q, q ≠ c → F' q = F q) : XI T F' nx c nW nJ fi' ar ad da bl ql := by
  have hbl := h.bls hM.2.2.2.1
  have hqj := h.qj hM.2.2.2.2.2.2
  obtain ⟨h1, h2, h3, h4, h5, h6⟩ := h
  refine ⟨hS, ?_, ?_, fun i => ?_, h5, h6⟩
  · exact bch_congr h2 (by rw [hF _ (by omega)]) (fun q hq f _ => by rw [hF q (by have := (hbl q hq).2; omega)])
  · rw [hF _ (by omega)]; exact jch_congr h3 (fun q hq => by rw [hF q (by have := (hqj q hq).2; omega)])
  · have hx := h4 i
    refine hx.cg (fun z => hM.lt24 z) (fun _ _ z => z) (by rw [hF _ (by omega)]) (fun _ _ _ => rfl) (fun _ _ => rfl) (fun _ _ => rfl) (fun _ _ _ => rfl) (fun _ => rfl) (fun z k _ => ?_) (fun z q hq k _ => ?_) (fun z => ?_) (fun _ _ _ _ _ _ _ => rfl)
    · rw [hF _ (by have := (hx.2.1 z).2.1; omega)]
    · rw [hF _ (by have := ((hx.2.1 z).2.2.2.2 q hq).2.1; omega)]
    · obtain ⟨K, gi, o, _, _, _, g, _⟩ := hx.2.2 z
      exact hF _ (by omega)
/-- the reference's rows behind the comparisons of a tick -/
def tkA (ar : Nat → Nat → Int32) (j : Nat) (v8 v14 : Int32) (w fi : Nat → Int32) : Nat → Nat → Int32 := pb (aw (ua (ua ar 8 j v8) 14 j v14) w) fi j
theorem tkA_3 (v8 v14 : Int32) : tkA ar j v8 v14 w fi 3 = w := by funext m; simp [tkA, pb, aw]
theorem tkA_n (v8 v14 : Int32) {k : Nat} (m : Nat) (h3 : k ≠ 3) (h8 : k ≠ 8) (h14 : k ≠ 14) (h19 : k ≠ 19) : tkA ar j v8 v14 w fi k m = ar k m := by simp [tkA, pb, aw, ua, h3, h8, h14, h19]
theorem tkA_j (v8 v14 : Int32) {k m : Nat} (h3 : k ≠ 3) (h19 : k ≠ 19) (hm : m ≠ j) : tkA ar j v8 v14 w fi k m = ar k m := by simp [tkA, pb, aw, ua, h3, h19, hm]
theorem tkA_8 (v8 v14 : Int32) : tkA ar j v8 v14 w fi 8 j = v8 := by simp [tkA, pb, aw, ua]
theorem tkA_14 (v8 v14 : Int32) : tkA ar j v8 v14 w fi 14 j = v14 := by simp [tkA, pb, aw, ua]
theorem tkA_19 (v8 v14 : Int32) {t : Nat} (hi : i ≠ j) (ht : t < 10) : tkA ar j v8 v14 w fi 19 (10 * i + t) = ar 19 (10 * i + t) := by
  simp only [tkA, pb]
  rw [if_neg (by omega)]
  simp [aw, ua]
theorem tkA_v (v8 v14 : Int32) {k : Nat} (h1 : 22 ≤ k) (h2 : k ≤ 31) : tkA ar j v8 v14 w fi 19 (10 * j + (k - 22)) = fi k := by
  simp only [tkA, pb]
  rw [if_pos ⟨trivial, by omega, by omega⟩]
  congr 1; omega
theorem tick_split (hT : mT T (c + 6) nW) (hM : MI nW nJ st fi ar bl ql) (hX : XI T F nx c nW nJ fi ar ad da bl ql) (hfu : 3000 < fu) (hst : st < 2 ^ 31) (G : Nat → Nat → Value) (nx2 : Nat) :
    ∃ r F' fi' ar' ql' st', fX9_takeTurn fu (mkS T F nx) c = some (r, mkS T F' nx) ∧ fX10_tick fu (mw T G nx2 (c + 6) fi ar) (c + 6) = some (r, mw T G nx2 (c + 6) fi' ar') ∧ XI T F' nx c nW nJ fi' ar' ad da bl ql' ∧ MI nW nJ st' fi' ar' bl ql' ∧ st' ≤ st + 1 ∧ (∀ q, c + 6 ≤ q → q < c + 21 → F' q = F q) := by
  obtain ⟨hA, kc, s3, s4, s5, s6, s7, s8, s9, s10, s11, s12, k5⟩ := id hX.1
  obtain ⟨m1, m2, m3, m4, m5, m6, ⟨qu, m7, m7'⟩, m8⟩ := id hM.1
  have hQ := hM.2.2.2.2.2.2
  have mt := m_turn (fu := fu) (G := G) (nx := nx2) (fi := ui fi 15 (fi 15 + 1)) (ar := ar) hT (by rw [ui_n _ _ (by decide)]; exact m2) m4 hQ.2.1 hM.qlt hQ.2.2.1 (by omega)
  have fc : ∀ k, k ≠ 4 → u2 F c 4 (.int (fi 15 + 1)) c k = F c k := fun k hk => u2_k hk
  have fq : ∀ q, q ≠ c → u2 F c 4 (.int (fi 15 + 1)) q = F q := fun q hq => u2_q hq
  have fc2 := fc 2 (by decide)
  rw [s5] at fc2
  have nk : ∀ {q k : Nat}, kd T q = some k → k ≠ 4 → kd T q ≠ some 4 := fun h1 h2 => by rw [h1]; intro z; injection z with z; omega
  cases hql : ql with
  | nil =>
    rw [hql] at mt hX hM
    have e0 : F (c + 5) 0 = .null := hX.2.2.1
    have e0' : u2 F c 4 (.int (fi 15 + 1)) (c + 5) 0 = .null := by rw [fq _ (by omega)]; exact e0
    refine ⟨-1, u2 F c 4 (.int (fi 15 + 1)), ui fi 15 (fi 15 + 1), ar, [], st, ?_, ?_, ?_, ?_, by omega, fun q h1 h2 => fq q (by omega)⟩
    · simp +decide only [fX9_takeTurn, gI_mk kc, s7, pV_mk kc, gR_mk kc, fc2, gR_mk k5, e0', Option.bind_some, bn2_s, zz_0, zz_1, if_true, if_false, ite_true, ite_false, vI_i, vR_n, vR_r, vR_v, reduceCtorEq]
    · simp +decide only [fX10_tick, Option.bind_some, bn2_s, zz_0, zz_1, if_true, if_false, ite_true, ite_false, vI_i, vR_n, vR_r, vR_v, reduceCtorEq, gI_m hT, gR_m hT, rcv_m hT, pV_m hT, aI_24 hT, sV_24 hT, aI_3 hT, sV_3 hT, aI_18 hT, sV_18 hT, aI_19 hT, sV_19 hT, aI_mZ hT, sV_mZ hT, ui_s, ui_n, ua_s, ua_k, mt, hdQ]
    · refine hX.st0 hM ?_ fq
      exact hX.1.cg (fun k hk => fc k (by omega)) (by rw [u2_s, ui_s]) (by rw [fc 5 (by decide), ui_n _ _ (by decide)]; exact s8) (fq _ (by omega)) (fun k _ => by rw [fq _ (by omega)]) (by rw [fq _ (by omega)]; exact hA.2.2.2.2.2.2.2) (ui_n _ _ (by decide))
    · exact hM.cg ⟨by rw [ui_n _ _ (by decide)]; exact m1, by rw [ui_n _ _ (by decide)]; exact m2, m3, m4, m5, m6, ⟨qu, by rw [ui_n _ _ (by decide)]; exact m7, m7'⟩, by rw [ui_n _ _ (by decide)]; exact m8⟩ (fun _ _ _ => rfl)
  | cons j tl =>
    have hjq : j ∈ ql := by rw [hql]; simp
    have h2 : ar 4 j = 2 := (hQ.2.1 j).mp hjq
    have hl : ar 4 j ≠ 0 := by rw [h2]; decide
    have hj := hM.lt24 hl
    have hjJ := hM.lt hl
    have hL := (hX.2.2.2.1 j).2.1 hl
    have hSO := (hX.2.2.2.1 j).2.2 h2
    have jl := hL.2.1
    obtain ⟨s, n, wy, p, n1, n2, n3, n4, n5, n6, n7, n8⟩ := hM.2.2.1 j hl
    have e0 : F (c + 5) 0 = .ref (ad (200 + j)) := by
      have := hX.2.2.1
      rw [hql] at this
      exact this.1
    have e0' : u2 F c 4 (.int (fi 15 + 1)) (c + 5) 0 = .ref (ad (200 + j)) := by rw [fq _ (by omega)]; exact e0
    obtain ⟨F2, a1, a2, a3⟩ := hX.leave (fu := fu) (F1 := u2 F c 4 (.int (fi 15 + 1))) hM hl hfu fq
    have F2c : ∀ k, k ≠ 4 → F2 c k = F c k := fun k hk => by rw [a3 c k (by omega) (Or.inr (nk kc (by decide)))]; exact fc k hk
    have F2c4 : F2 c 4 = .int (fi 15 + 1) := by rw [a3 c 4 (by omega) (Or.inr (nk kc (by decide))), u2_s]
    have F2q : ∀ q k, q ≠ c → q ≠ c + 5 → (k ≠ 10 ∨ kd T q ≠ some 4) → F2 q k = F q k := fun q k h1 h2 h3 => by rw [a3 q k h2 h3, fq q h1]
    have F2n : ∀ q, q ≠ c → q ≠ c + 5 → kd T q ≠ some 4 → F2 q = F q := fun q h1 h2 h3 => by funext k; exact F2q q k h1 h2 (Or.inr h3)
    obtain ⟨sK, sk, sKK, sgt, sda⟩ : ∃ K, kd T (ad (300 + j)) = some K ∧ (K = 2 ∨ K = 3 ∨ K = 5 ∨ K = 6) ∧ c + 21 ≤ ad (300 + j) ∧ da (ad (300 + j)) = 300 + j := by
      obtain ⟨K, gi, o, _, h1, h2, h3, h4, _⟩ := hSO
      exact ⟨K, h1, h2, h3, h4⟩
    have sn4 := nk sk (by omega)
    have hA2 : xA T F2 c nW (ar 3) := by
      obtain ⟨x1, x2, x3, x4, x5, x6, x7, x8⟩ := hA
      have e1 := F2n (c + 1) (by omega) (by omega) (nk x1 (by decide))
      exact ⟨x1, x2, x3, x4, x5, by rw [e1]; exact x6, by rw [e1]; exact x7, by rw [F2n _ (by omega) (by omega) (nk x2 (by decide))]; exact x8⟩
    obtain ⟨K, gi', fi', w', o', k, t1, t2, t3, t4, t5, t6, t7, t8, t9, t10, t11⟩ := tick_cmp (nx := nx) (nx2 := nx2) (G := G) (fi1 := tu (ui fi 15 (fi 15 + 1)) ar j) (qu := qu) (fu := fu) (F2 := F2) hT hM h2 hL hA2 hSO (fun k hk => F2q _ _ (by omega) (by omega) (Or.inl (by omega))) (fun q hq => by
      obtain ⟨b1, b2, _⟩ := hL.2.2.2.2 q hq
      exact F2n _ (by omega) (by omega) (nk b1 (by decide))) (F2n _ (by omega) (by omega) sn4) (by simp only [tu]; rw [if_neg (by decide), if_neg (by decide), if_neg (by omega), ui_n _ _ (by decide)]; exact m7) m7' (by simp [tu]) (by simp [tu]) (fun k h1 h2 => by simp only [tu, sv]; rw [if_neg (by omega), if_neg (by omega), if_pos ⟨h1, h2⟩]) hfu
    have tul : ∀ q, q < 20 → tu (ui fi 15 (fi 15 + 1)) ar j q = ui fi 15 (fi 15 + 1) q := fun q hq => by simp only [tu]; rw [if_neg (by omega), if_neg (by omega), if_neg (by omega)]
    have f17 : fi' 17 = fi 17 + nI k := by rw [t8, tul 17 (by omega), ui_n _ _ (by decide)]
    have f15 : fi' 15 = fi 15 + 1 := by rw [t9 15 (by omega) (by omega), tul 15 (by omega), ui_s]
    have fo : ∀ q, q < 20 → q ≠ 17 → q ≠ 15 → fi' q = fi q := fun q h1 h2 h3 => by rw [t9 q (by omega) h2, tul q h1, ui_n _ _ h3]
    have f20 : fi' 20 = nI j := by rw [t9 20 (by omega) (by omega)]; simp [tu]
    have jsa : ad (200 + j) ≠ ad (300 + j) := fun e => by rw [← e] at sn4; exact sn4 hL.1
    /- the world behind the comparisons -/
    generalize hF3 : u2 (wF (oF F2 (ad (300 + j)) (gS c (ad j) (ad (100 + j)) K gi')) c w') (ad (200 + j)) 6 (.int (ar 8 j + nI k)) = F3 at t3
    have F3c : ∀ k, F3 c k = F2 c k := fun k => by rw [← hF3, u2_q (by omega), wF_n (by omega)]; simp only [oF]; rw [if_neg (by omega)]
    have F3q : ∀ q, q ≠ c + 2 → q ≠ ad (200 + j) → q ≠ ad (300 + j) → F3 q = F2 q := fun q h1 h2 h3 => by rw [← hF3, u2_q h2, wF_n h1]; simp only [oF]; rw [if_neg h3]
    have F3w : F3 (c + 2) = fun i => .int (w' i) := by rw [← hF3, u2_q (by omega), wF_s]
    have F3s : F3 (ad (300 + j)) = gS c (ad j) (ad (100 + j)) K gi' := by rw [← hF3, u2_q (Ne.symm jsa), wF_n (by omega)]; simp [oF]
    have F3j : ∀ k2, F3 (ad (200 + j)) k2 = if k2 = 6 then .int (ar 8 j + nI k) else F2 (ad (200 + j)) k2 := fun k2 => by
      rw [← hF3]
      by_cases e : k2 = 6
      · rw [e, u2_s, if_pos rfl]
      · rw [u2_k e, if_neg e, wF_n (by omega)]; simp only [oF]; rw [if_neg jsa]
    generalize hF4 : u2 F3 c 5 (.int (fi 17 + nI k)) = F4
    have F4c : ∀ k, k ≠ 4 → k ≠ 5 → F4 c k = F c k := fun k h1 h2 => by rw [← hF4, u2_k h2, F3c, F2c k h1]
    have F4c2 : F4 c 2 = .ref (c + 5) := by rw [F4c 2 (by decide) (by decide)]; exact s5
    have F4c4 : F4 c 4 = .int (fi 15 + 1) := by rw [← hF4, u2_k (by decide), F3c, F2c4]
    have F4c5 : F4 c 5 = .int (fi' 17) := by rw [← hF4, u2_s, f17]
    have F4q : ∀ q, q ≠ c → F4 q = F3 q := fun q hq => by rw [← hF4, u2_q hq]
    have F4j : ∀ k2, F4 (ad (200 + j)) k2 = if k2 = 6 then .int (ar 8 j + nI k) else F2 (ad (200 + j)) k2 := fun k2 => by rw [F4q _ (by omega)]; exact F3j k2
    have F4j9 : F4 (ad (200 + j)) 9 = .ref (ad (300 + j)) := by
      rw [F4j, if_neg (by decide), F2q _ _ (by omega) (by omega) (Or.inl (by decide))]
      obtain ⟨_, _, _, g, _⟩ := hSO; exact g
    have F4s3 : F4 (ad (300 + j)) 3 = .int (nI o') := by
      rw [F4q _ (by omega), F3s]; simp only [gS]; rw [if_neg (by decide), if_neg (by decide), if_neg (by omega), t7]
    have F4j0 : F4 (ad (200 + j)) 0 = .int (nI j) := by
      rw [F4j, if_neg (by decide), F2q _ _ (by omega) (by omega) (Or.inl (by decide))]
      exact hL.2.2.2.1 0 (by omega)
    have F4f : ∀ q k, q ≠ c → q ≠ c + 2 → q ≠ c + 5 → q ≠ ad (200 + j) → q ≠ ad (300 + j) → (k ≠ 10 ∨ kd T q ≠ some 4) → F4 q k = F q k := fun q k h1 h2 h3 h4 h5 h6 => by rw [F4q q h1, F3q q h2 h4 h5]; exact F2q q k h1 h3 h6
    /- up to isSorted -/
    have xpre : fX9_takeTurn fu (mkS T F nx) c = bn2 (fX4_isSorted fu (mkS T F4 nx) (ad (200 + j))) fun r42 S43 => if r42 = 0 then ((gR S43 8 2 (some c)).bind fun v51 => (rcv S43 7 v51).bind fun b56 => bn2 (fX7_enter fu S43 b56 (some (ad (200 + j)))) fun _ S55 => (gI S55 4 0 (some (ad (200 + j)))).bind fun v62 => some (v62, S55)) else ((pV S43 4 5 (some (ad (200 + j))) (.int (3 : Int32))).bind fun S65 => (gI S65 8 4 (some c)).bind fun v68 => (pV S65 4 8 (some (ad (200 + j))) (.int v68)).bind fun S71 => (gI S71 4 0 (some (ad (200 + j)))).bind fun v74 => some (v74, S71)) := by
      have c5 : F2 c 5 = .int (fi 17) := by rw [F2c 5 (by decide)]; exact s8
      have c3 : F2 c 3 = .int (nI qu) := by rw [F2c 3 (by decide), s6, m7]
      simp +decide only [fX9_takeTurn, gI_mk kc, s7, pV_mk kc, gR_mk kc, fc2, gR_mk k5, e0', rcv_mk k5, a1, c5, c3, rcv_mk hL.1, t3, hF4, Option.bind_some, bn2_s, zz_0, zz_1, if_true, if_false, ite_true, ite_false, vI_i, vR_n, vR_r, vR_v, reduceCtorEq]
    have mpre : fX10_tick fu (mw T G nx2 (c + 6) fi ar) (c + 6) = fX10_tick_82 fu (mw T G nx2 (c + 6) fi' (aw (ua (ua ar 8 j (ar 8 j + nI k)) 14 j (nI (1 - o'))) w')) (c + 6) (nI j) := by
      have nn : ¬ nI j = (-1 : Int32) := nI_n1 (by omega)
      have hd : hdQ ql = nI j := by rw [hql]; rfl
      rw [hd] at mt
      have hu := m_tu (fu := fu) (G := G) (nx := nx2) (fi := ui fi 15 (fi 15 + 1)) (ar := ar) hT hj
      simp +decide only [fX10_tick, Option.bind_some, bn2_s, zz_0, zz_1, if_true, if_false, ite_true, ite_false, vI_i, vR_n, vR_r, vR_v, reduceCtorEq, gI_m hT, gR_m hT, rcv_m hT, pV_m hT, aI_24 hT, sV_24 hT, aI_3 hT, sV_3 hT, aI_18 hT, sV_18 hT, aI_19 hT, sV_19 hT, aI_mZ hT, sV_mZ hT, ui_s, ui_n, ua_s, ua_k, mt, nn, hu]
      exact t4
    have mput := m_putsBy (fu := fu) (G := G) (nx := nx2) (fi := fi') (ar := aw (ua (ua ar 8 j (ar 8 j + nI k)) 14 j (nI (1 - o'))) w') hT f20 hj
    have hA3 : pb (aw (ua (ua ar 8 j (ar 8 j + nI k)) 14 j (nI (1 - o'))) w') fi' j = tkA ar j (ar 8 j + nI k) (nI (1 - o')) w' fi' := rfl
    rw [hA3] at mput
    /- the common end -/
    have fin : ∀ (F5 : Nat → Nat → Value) (fi'' : Nat → Int32) (ar' : Nat → Nat → Int32) (ql' : List Nat) (st' : Nat),
        (∀ q k, q ≠ c → q ≠ c + 2 → q ≠ c + 5 → q ≠ ad (200 + j) → q ≠ ad (300 + j) → (k ≠ 10 ∨ kd T q ≠ some 4) → F5 q k = F q k) → (∀ k, k ≤ 5 → F5 c k = F4 c k) → F5 (c + 2) = F4 (c + 2) → (∀ k, k ≤ 8 → F5 (ad (200 + j)) k = jv ar' ad j k) → F5 (ad (200 + j)) 9 = .ref (ad (300 + j)) → F5 (ad (300 + j)) = F4 (ad (300 + j)) → jch T F5 (F5 (c + 5) 0) (ql'.map (aj ad)) → (∀ q, q ≠ 16 → fi'' q = fi' q) → fi'' 16 = nI st' → QL ar' st' ql' → (∀ k, k ∈ ql' → k < 24) → ar' 3 = w' → (∀ k m, m ≠ j → k ≠ 3 → k ≠ 19 → ar' k m = ar k m) → (∀ k m, k ≠ 3 → k ≠ 4 → k ≠ 8 → k ≠ 11 → k ≠ 13 → k ≠ 14 → k ≠ 19 → ar' k m = ar k m) → (∃ s, s ≤ 4 ∧ ar' 4 j = nI s ∧ s ≠ 0) → ar' 14 j = nI (1 - o') → (∀ q, ar' 19 q = tkA ar j (ar 8 j + nI k) (nI (1 - o')) w' fi' 19 q) → (ar' 4 j = 2 → o' = 0) →
          XI T F5 nx c nW nJ fi'' ar' ad da bl ql' ∧ MI nW nJ st' fi'' ar' bl ql' ∧ (∀ q, c + 6 ≤ q → q < c + 21 → F5 q = F q) := by
      intro F5 fi'' ar' ql' st' h1 h2' h3 h4 h5 h6 h7 h8 h9 h10 h11 h12 h13 h14 h15 h16 h17 h18
      have gr : ∀ k, k ≠ 3 → k ≠ 4 → k ≠ 8 → k ≠ 11 → k ≠ 13 → k ≠ 14 → k ≠ 19 → ar' k = ar k := fun k a b c d e f g => by funext m; exact h14 k m a b c d e f g
      obtain ⟨s', s1, s2, s3'⟩ := h15
      have hl' : ar' 4 j ≠ 0 := by rw [s2]; exact nI_ne0 (by omega) (by omega)
      have hMF : MF nW nJ st' fi'' := ⟨by rw [h8 0 (by decide), fo 0 (by decide) (by decide) (by decide)]; exact m1, by rw [h8 1 (by decide), fo 1 (by decide) (by decide) (by decide)]; exact m2, m3, m4, m5, m6, ⟨qu, by rw [h8 2 (by decide), fo 2 (by decide) (by decide) (by decide)]; exact m7, m7'⟩, h9⟩
      have hM' : MI nW nJ st' fi'' ar' bl ql' := hM.upj hMF hl (fun m hm => h13 4 m hm (by decide) (by decide)) ⟨s', n, wy, p, s2, s1, by rw [gr 5 (by decide) (by decide) (by decide) (by decide) (by decide) (by decide) (by decide)]; exact n3, n4, by rw [gr 6 (by decide) (by decide) (by decide) (by decide) (by decide) (by decide) (by decide)]; exact n5, n6, by rw [gr 7 (by decide) (by decide) (by decide) (by decide) (by decide) (by decide) (by decide)]; exact n7, n8⟩ hl' (fun m hm => h13 7 m hm (by decide) (by decide)) (gr 5 (by decide) (by decide) (by decide) (by decide) (by decide) (by decide) (by decide)) (gr 6 (by decide) (by decide) (by decide) (by decide) (by decide) (by decide) (by decide)) (gr 9 (by decide) (by decide) (by decide) (by decide) (by decide) (by decide) (by decide)) (gr 10 (by decide) (by decide) (by decide) (by decide) (by decide) (by decide) (by decide)) h10
      have en : ∀ q, q ≠ c → q ≠ c + 2 → q ≠ c + 5 → q ≠ ad (200 + j) → q ≠ ad (300 + j) → kd T q ≠ some 4 → F5 q = F q := fun q a1 a2 a3 a4 a5 a6 => by funext k; exact h1 q k a1 a2 a3 a4 a5 (Or.inr a6)
      refine ⟨?_, hM', fun q q1 q2 => en q (by omega) (by omega) (by omega) (by omega) (by omega) (mT_n4 hT q1 (by omega))⟩
      refine hX.line (sj := ad (300 + j)) (j := j) hM (fun _ _ z => z) hX.2.2.2.2.1 hX.2.2.2.2.2 ?_ h7 (fun _ _ => rfl) (fun _ _ => rfl) (fun _ _ _ => rfl) (fun m hm hm2 => ?_) (fun q hq => ?_) h1 (fun k hk => by have := h11 k hk; omega) hl (fun m hm => ?_) (fun m hm k k1 k2 => h13 k m hm (by omega) (by omega)) (fun m hm t ht => by rw [h17]; exact tkA_19 _ _ hm ht) (fun m hm b1 b2 b b3 b4 t ht => by rw [h12]; exact t11 m hm b1 b2 b b3 b4 t ht) ?_
      · exact hX.1.cg (fun k hk => by rw [h2' k (by omega)]; exact F4c k (by omega) (by omega)) (by rw [h2' 4 (by omega), F4c4, h8 15 (by decide), f15]) (by rw [h2' 5 (by omega), F4c5, h8 17 (by decide)]) (en _ (by omega) (by omega) (by omega) (by omega) (by omega) (nk hA.1 (by decide))) (fun k _ => by rw [en _ (by omega) (by omega) (by omega) (by omega) (by omega) (nk hA.2.2.2.2.1 (by decide))]) (by rw [h3, F4q _ (by omega), F3w, h12]) (by rw [h8 2 (by decide), fo 2 (by decide) (by decide) (by decide)])
      · obtain ⟨_, _, _, _, _, _, _, g, _⟩ := (hX.2.2.2.1 m).2.2 hm2
        intro e
        rw [e, sda] at g
        omega
      · rintro rfl
        rw [sk] at hq
        simp only [Option.some.injEq] at hq
        clear t10
        omega
      · rw [h13 4 m (by omega) (by decide) (by decide)]; exact hM.2.1 m hm
      · refine ⟨fun z => ?_, fun z => ?_, fun z => ?_⟩
        · rw [if_neg hl', en _ (by omega) (by omega) (by omega) (by omega) (by omega) (nk s11 (by decide))]
          have := (hX.2.2.2.1 j).1 z
          rw [if_neg hl] at this; exact this
        · refine hL.of hj h4 (fun q hq => ?_) (by rw [gr 5 (by decide) (by decide) (by decide) (by decide) (by decide) (by decide) (by decide)]) (by rw [gr 6 (by decide) (by decide) (by decide) (by decide) (by decide) (by decide) (by decide)]) (by rw [gr 9 (by decide) (by decide) (by decide) (by decide) (by decide) (by decide) (by decide)]) (by rw [gr 10 (by decide) (by decide) (by decide) (by decide) (by decide) (by decide) (by decide)])
          obtain ⟨b1, b2, b3, b4, b5⟩ := hL.2.2.2.2 q hq
          exact en (ad q) (by omega) (by omega) (by omega) (fun z => by rw [z, hL.1] at b1; exact absurd b1 (by decide)) (fun z => by rw [z, sk] at b1; injection b1 with b1; clear t10; omega) (nk b1 (by decide))
        · have ho := h18 z
          refine ⟨K, gi', o', h5, t2, t1, sgt, sda, by rw [h6, F4q _ (by omega), F3s], t5, by rw [gr 5 (by decide) (by decide) (by decide) (by decide) (by decide) (by decide) (by decide)]; exact t6, t7, h16, fun z2 => ?_⟩
          obtain ⟨wy2, n', bf, q1, q2, q3, q4, q5, q6, q7⟩ := t10 z2
          refine ⟨wy2, n', bf, by rw [gr 6 (by decide) (by decide) (by decide) (by decide) (by decide) (by decide) (by decide)]; exact q1, q2, by rw [gr 5 (by decide) (by decide) (by decide) (by decide) (by decide) (by decide) (by decide)]; exact q3, q4, fun z3 => by rw [gr 10 (by decide) (by decide) (by decide) (by decide) (by decide) (by decide) (by decide)]; exact q5 z3, q6, ?_⟩
          rw [h12]
          exact q7.fi (fun k k1 k2 => by simp only [sv]; rw [h17]; exact tkA_v _ _ k1 k2)
    have hflt : ∀ k, k ∈ ql.filter (fun k => !(k == j)) → k < 24 := fun k hk => by have := hM.qlt k (List.mem_filter.mp hk).1; omega
    have jchF4 : jch T F4 (F4 (c + 5) 0) ((ql.filter (fun k => !(k == j))).map (aj ad)) := by
      rw [F4q _ (by omega), F3q _ (by omega) (by omega) (by omega)]
      refine jch_congr a2 (fun q hq => ?_)
      obtain ⟨m, hm, e⟩ := List.mem_map.mp hq
      have hm1 := (List.mem_filter.mp hm).1
      have hmj : m ≠ j := by have := (List.mem_filter.mp hm).2; simpa using this
      have hml : ar 4 m ≠ 0 := by rw [(hQ.2.1 m).mp hm1]; decide
      have hLm := (hX.2.2.2.1 m).2.1 hml
      rw [← e]
      show F4 (ad (200 + m)) 10 = F2 (ad (200 + m)) 10
      have := hLm.2.1
      rw [F4q _ (by omega), F3q _ (by omega) (fun z => hmj (hX.ij hml hl z)) (fun z => by rw [← z] at sn4; exact sn4 hLm.1)]
    have xs42 : fX4_isSorted fu (mkS T F4 nx) (ad (200 + j)) = some (nI o', mkS T F4 nx) := by
      have h3 : gI4 (mkS T F4 nx) 3 (some (ad (300 + j))) = some (nI o') := by rw [gI4_mk t2 t1, F4s3]; rfl
      rcases (show o' = 0 ∨ o' = 1 by omega) with rfl | rfl
      · simp +decide only [fX4_isSorted, gR_mk hL.1, F4j9, h3, show nI 0 = (0 : Int32) from rfl, Option.bind_some, bn2_s, zz_0, zz_1, if_true, if_false, ite_true, ite_false, vI_i, vR_n, vR_r, vR_v, reduceCtorEq]
      · simp +decide only [fX4_isSorted, gR_mk hL.1, F4j9, h3, show nI 1 = (1 : Int32) from rfl, Option.bind_some, bn2_s, zz_0, zz_1, if_true, if_false, ite_true, ite_false, vI_i, vR_n, vR_r, vR_v, reduceCtorEq]
    have jvv : ∀ (ar' : Nat → Nat → Int32), (∀ k m, k ≠ 3 → k ≠ 4 → k ≠ 8 → k ≠ 11 → k ≠ 13 → k ≠ 14 → k ≠ 19 → ar' k m = ar k m) → ar' 8 j = ar 8 j + nI k → ∀ k2, k2 ≤ 8 → jv ar' ad j k2 = if k2 = 5 then .int (ar' 4 j) else if k2 = 8 then .int (ar' 13 j) else F4 (ad (200 + j)) k2 := by
      intro ar' g1 g8 k2 hk2
      rw [F4j k2, F2q _ _ (by omega) (by omega) (Or.inl (by omega)), hL.2.2.2.1 k2 hk2]
      have : k2 = 0 ∨ k2 = 1 ∨ k2 = 2 ∨ k2 = 3 ∨ k2 = 4 ∨ k2 = 5 ∨ k2 = 6 ∨ k2 = 7 ∨ k2 = 8 := by omega
      rcases this with rfl | rfl | rfl | rfl | rfl | rfl | rfl | rfl | rfl <;> simp [jv, g8, g1 6 j (by decide) (by decide) (by decide) (by decide) (by decide) (by decide) (by decide), g1 7 j (by decide) (by decide) (by decide) (by decide) (by decide) (by decide) (by decide), g1 12 j (by decide) (by decide) (by decide) (by decide) (by decide) (by decide) (by decide)]
    have hqr : QL (ua ar 4 j 0) st (ql.filter (fun k => !(k == j))) := hQ.rm (fun k hk => ua_j _ _ _ _ hk) (by rw [ua_s]; decide) (fun k hk => ua_j _ _ _ _ hk) (fun k hk => ua_j _ _ _ _ hk)
    rcases (show o' = 0 ∨ o' = 1 by omega) with ho | ho
    · /- it goes on: to the end of its queue -/
      have hnj : j ∉ ql.filter (fun k => !(k == j)) := fun z => by simpa using (List.mem_filter.mp z).2
      obtain ⟨F5, b1, b2, b3⟩ := enter_l (fu := fu) (nx := nx) (c := c) (T := T) (F1 := F4) (ad := ad) (da := da) (j := j) (ql := ql.filter (fun k => !(k == j))) (Q := ar 7) k5 (fun m hm => by
        have hml : ar 4 m ≠ 0 := by
          rcases hm with e | e
          · rw [e]; exact hl
          · rw [(hQ.2.1 m).mp (List.mem_filter.mp e).1]; decide
        have hLm := (hX.2.2.2.1 m).2.1 hml
        refine ⟨hLm.1, hLm.2.2.1, ?_⟩
        by_cases e : m = j
        · subst e
          rw [F4j, if_neg (by decide), F2q _ _ (by omega) (by omega) (Or.inl (by decide))]
          exact hLm.2.2.2.1 4 (by omega)
        · have := hLm.2.1
          rw [F4f _ _ (by omega) (by omega) (by omega) (fun z => e (hX.ij hml hl z)) (fun z => by rw [← z] at sn4; exact sn4 hLm.1) (Or.inl (by decide))]
          exact hLm.2.2.2.1 4 (by omega)) hqr.1 hnj jchF4 (by have := hM.qlen; have := List.length_filter_le (fun k => !(k == j)) ql; omega)
      have f16 : fi' 16 = nI st := by rw [fo 16 (by decide) (by decide) (by decide)]; exact m8
      generalize hA5 : ua (tkA ar j (ar 8 j + nI k) (nI (1 - o')) w' fi') 11 j (fi' 16) = ar5
      have r4 : ∀ m, ar5 4 m = ar 4 m := fun m => by rw [← hA5, ua_k _ _ _ _ (by decide), tkA_n _ _ _ (by decide) (by decide) (by decide) (by decide)]
      have r7 : ar5 7 = ar 7 := by funext m; rw [← hA5, ua_k _ _ _ _ (by decide), tkA_n _ _ _ (by decide) (by decide) (by decide) (by decide)]
      have rj : ∀ k2 m, m ≠ j → k2 ≠ 3 → k2 ≠ 19 → ar5 k2 m = ar k2 m := fun k2 m h1 h2 h3 => by rw [← hA5, ua_j _ _ _ _ h1, tkA_j _ _ h2 h3 h1]
      have rn : ∀ k2 m, k2 ≠ 3 → k2 ≠ 4 → k2 ≠ 8 → k2 ≠ 11 → k2 ≠ 13 → k2 ≠ 14 → k2 ≠ 19 → ar5 k2 m = ar k2 m := fun k2 m h1 h2 h3 h4 h5 h6 h7 => by rw [← hA5, ua_k _ _ _ _ h4, tkA_n _ _ _ h1 h3 h6 h7]
      have hq2 : QL ar5 (st + 1) (insQ (ar 7) j (ql.filter (fun k => !(k == j)))) := by
        have := hqr.add (ar' := ar5) (j := j) (by rw [ua_s]; decide) (fun m hm => by rw [r4, ua_j _ _ _ _ hm]) (by rw [r4]; exact h2) (fun m hm => by rw [r7, ua_j _ _ _ _ hm]) (fun m hm => by rw [rj 11 m hm (by decide) (by decide), ua_j _ _ _ _ hm]) (by rw [← hA5, ua_s]; exact f16) hst
        rw [r7] at this
        exact this
      have F5j : ∀ k2, k2 ≠ 10 → F5 (ad (200 + j)) k2 = F4 (ad (200 + j)) k2 := fun k2 hk => b3 _ _ (by omega) (Or.inl hk)
      obtain ⟨w1, w2, w3⟩ := fin F5 (ui fi' 16 (fi' 16 + 1)) ar5 (insQ (ar 7) j (ql.filter (fun k => !(k == j)))) (st + 1) (fun q k2 h1 h2 h3 h4 h5 h6 => by rw [b3 q k2 h3 h6]; exact F4f q k2 h1 h2 h3 h4 h5 h6) (fun k2 _ => b3 _ _ (by omega) (Or.inr (nk kc (by decide)))) (by funext k2; exact b3 _ _ (by omega) (Or.inr (nk hA.2.1 (by decide)))) (fun k2 hk2 => by
          rw [F5j k2 (by omega), jvv ar5 rn (by rw [← hA5, ua_k _ _ _ _ (by decide), tkA_8]) k2 hk2]
          by_cases e5 : k2 = 5
          · rw [e5, if_pos rfl, r4, F4j, if_neg (by decide), F2q _ _ (by omega) (by omega) (Or.inl (by decide))]; exact hL.2.2.2.1 5 (by omega)
          · rw [if_neg e5]
            by_cases e8 : k2 = 8
            · rw [e8, if_pos rfl, F4j, if_neg (by decide), F2q _ _ (by omega) (by omega) (Or.inl (by decide)), ← hA5, ua_k _ _ _ _ (by decide), tkA_n _ _ _ (by decide) (by decide) (by decide) (by decide)]; exact hL.2.2.2.1 8 (by omega)
            · rw [if_neg e8]) (by rw [F5j 9 (by decide)]; exact F4j9) (by funext k2; exact b3 _ _ (by omega) (Or.inr sn4)) b2 (fun q hq => ui_n _ _ hq) (by rw [ui_s, f16]; exact nI_ad1 st) hq2 (fun m hm => by
          rcases mem_insQ.mp hm with e | e
          · omega
          · exact hflt m e) (by funext m; rw [← hA5, ua_k _ _ _ _ (by decide), tkA_3]) rj rn ⟨2, by omega, by rw [r4]; exact h2, by omega⟩ (by rw [← hA5, ua_k _ _ _ _ (by decide), tkA_14]) (fun q => by rw [← hA5, ua_k _ _ _ _ (by decide)]) (fun _ => ho)
      refine ⟨nI j, F5, ui fi' 16 (fi' 16 + 1), ar5, _, st + 1, ?_, ?_, w1, w2, Nat.le_refl _, w3⟩
      · have F5j0 : F5 (ad (200 + j)) 0 = .int (nI j) := by rw [F5j 0 (by decide)]; exact F4j0
        rw [xpre, xs42, ho]
        simp +decide only [show nI 0 = (0 : Int32) from rfl, gR_mk kc, F4c2, rcv_mk k5, b1, gI_mk hL.1, F5j0, Option.bind_some, bn2_s, zz_0, zz_1, if_true, if_false, ite_true, ite_false, vI_i, vR_n, vR_r, vR_v, reduceCtorEq]
      · rw [mpre, ← hA5]
        have mg := m_gte (fu := fu) (G := G) (nx := nx2) (fi := fi') (ar := tkA ar j (ar 8 j + nI k) (nI (1 - o')) w' fi') hT hj
        have h14 : tkA ar j (ar 8 j + nI k) (nI (1 - o')) w' fi' 14 j = 1 := by rw [tkA_14, ho]; rfl
        simp +decide only [fX10_tick_82, Option.bind_some, bn2_s, zz_0, zz_1, if_true, if_false, ite_true, ite_false, vI_i, vR_n, vR_r, vR_v, reduceCtorEq, gI_m hT, gR_m hT, rcv_m hT, pV_m hT, aI_24 hT, sV_24 hT, aI_3 hT, sV_3 hT, aI_18 hT, sV_18 hT, aI_19 hT, sV_19 hT, aI_mZ hT, sV_mZ hT, ui_s, ui_n, ua_s, ua_k, mput, h14, hj, mg]
    · /- it is done -/
      generalize hA5 : ua (ua (tkA ar j (ar 8 j + nI k) (nI (1 - o')) w' fi') 4 j 3) 13 j (fi' 15) = ar5
      have r4 : ar5 4 j = 3 := by rw [← hA5, ua_k _ _ _ _ (by decide), ua_s]
      have rj : ∀ k2 m, m ≠ j → k2 ≠ 3 → k2 ≠ 19 → ar5 k2 m = ar k2 m := fun k2 m h1 h2 h3 => by rw [← hA5, ua_j _ _ _ _ h1, ua_j _ _ _ _ h1, tkA_j _ _ h2 h3 h1]
      have rn : ∀ k2 m, k2 ≠ 3 → k2 ≠ 4 → k2 ≠ 8 → k2 ≠ 11 → k2 ≠ 13 → k2 ≠ 14 → k2 ≠ 19 → ar5 k2 m = ar k2 m := fun k2 m h1 h2 h3 h4 h5 h6 h7 => by rw [← hA5, ua_k _ _ _ _ h5, ua_k _ _ _ _ h2, tkA_n _ _ _ h1 h3 h6 h7]
      have hq2 : QL ar5 st (ql.filter (fun k => !(k == j))) := hQ.rm (fun m hm => rj 4 m hm (by decide) (by decide)) (by rw [r4]; decide) (fun m hm => rj 7 m hm (by decide) (by decide)) (fun m hm => rj 11 m hm (by decide) (by decide))
      have F5q : ∀ q, q ≠ ad (200 + j) → u2 (u2 F4 (ad (200 + j)) 5 (.int 3)) (ad (200 + j)) 8 (.int (fi 15 + 1)) q = F4 q := fun q hq => by rw [u2_q hq, u2_q hq]
      have F5j : ∀ k2, k2 ≠ 5 → k2 ≠ 8 → u2 (u2 F4 (ad (200 + j)) 5 (.int 3)) (ad (200 + j)) 8 (.int (fi 15 + 1)) (ad (200 + j)) k2 = F4 (ad (200 + j)) k2 := fun k2 h1 h2 => by rw [u2_k h2, u2_k h1]
      obtain ⟨w1, w2, w3⟩ := fin (u2 (u2 F4 (ad (200 + j)) 5 (.int 3)) (ad (200 + j)) 8 (.int (fi 15 + 1))) fi' ar5 (ql.filter (fun k => !(k == j))) st (fun q k2 h1 h2 h3 h4 h5 h6 => by rw [F5q q h4]; exact F4f q k2 h1 h2 h3 h4 h5 h6) (fun k2 _ => by rw [F5q _ (by omega)]) (F5q _ (by omega)) (fun k2 hk2 => by
          rw [jvv ar5 rn (by rw [← hA5, ua_k _ _ _ _ (by decide), ua_k _ _ _ _ (by decide), tkA_8]) k2 hk2]
          by_cases e5 : k2 = 5
          · rw [e5, if_pos rfl, r4, u2_k (by decide), u2_s]
          · rw [if_neg e5]
            by_cases e8 : k2 = 8
            · rw [e8, if_pos rfl, u2_s, ← hA5, ua_s, f15]
            · rw [if_neg e8]; exact F5j k2 e5 e8) (by rw [F5j 9 (by decide) (by decide)]; exact F4j9) (F5q _ (Ne.symm jsa)) (by
          rw [F5q _ (by omega)]
          exact jch_congr jchF4 (fun q hq => by rw [u2_k (by decide), u2_k (by decide)])) (fun q _ => rfl) (by rw [fo 16 (by decide) (by decide) (by decide)]; exact m8) hq2 hflt (by funext m; rw [← hA5, ua_k _ _ _ _ (by decide), ua_k _ _ _ _ (by decide), tkA_3]) rj rn ⟨3, by omega, r4, by omega⟩ (by rw [← hA5, ua_k _ _ _ _ (by decide), ua_k _ _ _ _ (by decide), tkA_14]) (fun q => by rw [← hA5, ua_k _ _ _ _ (by decide), ua_k _ _ _ _ (by decide)]) (fun z => by rw [r4] at z; exact absurd z (by decide))
      refine ⟨nI j, _, fi', ar5, _, st, ?_, ?_, w1, w2, by omega, w3⟩
      · have F5j0 : u2 (u2 F4 (ad (200 + j)) 5 (.int 3)) (ad (200 + j)) 8 (.int (fi 15 + 1)) (ad (200 + j)) 0 = .int (nI j) := by rw [F5j 0 (by decide) (by decide)]; exact F4j0
        have c4 : u2 F4 (ad (200 + j)) 5 (.int 3) c 4 = .int (fi 15 + 1) := by rw [u2_q (by omega)]; exact F4c4
        rw [xpre, xs42, ho]
        simp +decide only [show nI 1 = (1 : Int32) from rfl, pV_mk hL.1, gI_mk kc, c4, gI_mk hL.1, F5j0, Option.bind_some, bn2_s, zz_0, zz_1, if_true, if_false, ite_true, ite_false, vI_i, vR_n, vR_r, vR_v, reduceCtorEq]
      · rw [mpre, ← hA5]
        have h14 : tkA ar j (ar 8 j + nI k) (nI (1 - o')) w' fi' 14 j = 0 := by rw [tkA_14, ho]; rfl
        simp +decide only [fX10_tick_82, Option.bind_some, bn2_s, zz_0, zz_1, if_true, if_false, ite_true, ite_false, vI_i, vR_n, vR_r, vR_v, reduceCtorEq, gI_m hT, gR_m hT, rcv_m hT, pV_m hT, aI_24 hT, sV_24 hT, aI_3 hT, sV_3 hT, aI_18 hT, sV_18 hT, aI_19 hT, sV_19 hT, aI_mZ hT, sV_mZ hT, ui_s, ui_n, ua_s, ua_k, mput, h14, hj]
end TK
