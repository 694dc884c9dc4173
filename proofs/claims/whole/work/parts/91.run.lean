section RN
variable {T T' : Nat → Option (Nat × Nat)} {F F' F0 F1 G : Nat → Nat → Value} {nx nx2 c nW nJ st st' i j fu z n : Nat} {fi fi' : Nat → Int32} {ar ar' : Nat → Nat → Int32} {ad da : Nat → Nat} {bl : bL} {ql : List Nat}
theorem mkS_q (h : mkS T F0 nx = mkS T F1 nx) {q : Nat} (hq : T q ≠ none) : F0 q = F1 q := by
  have h1 := congrFun (congrArg Prod.fst h) q
  simp only [mkS] at h1
  cases hT : T q with
  | none => exact absurd hT hq
  | some k =>
    rw [hT] at h1
    simp only [Option.map_some, Option.some.injEq, Prod.mk.injEq] at h1
    exact h1.2.2
theorem mkS_mF (h : mkS T F0 nx = mkS T F1 nx) : mkS T (mF F0 z fi ar) nx = mkS T (mF F1 z fi ar) nx := by
  unfold mkS
  congr 1
  funext q
  cases hT : T q with
  | none => rfl
  | some k =>
    have e := mkS_q h (q := q) (by rw [hT]; simp)
    have : mF F0 z fi ar q = mF F1 z fi ar q := by simp only [mF, e]
    simp only [Option.map_some, this]
/-- a class's half, and a reference's half over any rest of the world, are one call -/
theorem two_phase {fx fm : hS → Option (Int32 × hS)} {k : Nat} (hT : mT T (c + 6) nW) (hF : mF F (c + 6) fi ar = F) (h : ∀ (G : Nat → Nat → Value), ∃ r F' fi' ar' ql' st', fx (mkS T F nx) = some (r, mkS T F' nx) ∧ fm (mw T G nx (c + 6) fi ar) = some (r, mw T G nx (c + 6) fi' ar') ∧ XI T F' nx c nW nJ fi' ar' ad da bl ql' ∧ MI nW nJ st' fi' ar' bl ql' ∧ st' ≤ st + k ∧ (∀ q, c + 6 ≤ q → q < c + 21 → F' q = F q)) :
    ∃ r S1 S2, fx (mkS T F nx) = some (r, S1) ∧ fm S1 = some (r, S2) ∧ OUT c nW nJ (st + k) S2 := by
  obtain ⟨r0, F0, _, _, _, _, x0, _, _, _, _, w0⟩ := h F
  obtain ⟨r1, F1, fi1, ar1, ql1, st1, x1, y1, z1, u1, v1, w1⟩ := h F0
  rw [x0] at x1
  injection x1 with x1
  injection x1 with e1 e2
  subst e1
  have k0 := mF_keep (F' := F0) hF (fun q h1 h2 => w0 q h1 (by omega))
  refine ⟨r0, mkS T F0 nx, mw T F0 nx (c + 6) fi1 ar1, x0, ?_, ?_⟩
  · have : mkS T F0 nx = mw T F0 nx (c + 6) fi ar := by show _ = mkS T _ nx; rw [k0]
    rw [this]; exact y1
  · exact ⟨T, mF F1 (c + 6) fi1 ar1, nx, fi1, ar1, ad, da, bl, ql1, st1, v1, mkS_mF e2, INV.mk hT u1 z1⟩
theorem op_tick (h : INV T F nx c nW nJ st fi ar ad da bl ql) (hfu : 3000 < fu) (hst : st < 2 ^ 31) : ∃ r S1 S2, fX9_tick fu (mkS T F nx) c = some (r, S1) ∧ fX10_tick fu S1 (c + 6) = some (r, S2) ∧ OUT c nW nJ (st + 1) S2 := by
  obtain ⟨hT, hF, hM, hX⟩ := id h
  obtain ⟨r, S1, S2, a1, a2, a3⟩ := two_phase (fx := fun S => fX9_takeTurn fu S c) (fm := fun S => fX10_tick fu S (c + 6)) (nx := nx) hT hF (fun G => tick_split hT hM hX hfu hst G nx)
  refine ⟨r, S1, S2, ?_, a2, a3⟩
  have a1' : fX9_takeTurn fu (mkS T F nx) c = some (r, S1) := a1
  simp only [fX9_tick, rcv_mk hX.1.2.1, a1', Option.bind_some, bn2_s, zz_0, zz_1, if_true, if_false, ite_true, ite_false, vI_i, vR_n, vR_r, vR_v, reduceCtorEq]
theorem run_split (hT : mT T (c + 6) nW) (hfu : 3000 < fu) (hn : n ≤ 3000) (G : Nat → Nat → Value) (nx2 : Nat) : ∀ (k m a st : Nat) (F : Nat → Nat → Value) (fi : Nat → Int32) (ar : Nat → Nat → Int32) (ql : List Nat), a + k = n → k < m → st + k < 2 ^ 31 → MI nW nJ st fi ar bl ql → XI T F nx c nW nJ fi ar ad da bl ql →
    ∃ r F' fi' ar' ql' st', fX9_run_16 fu m (mkS T F nx) c (nI n) (nI a) = some (r, mkS T F' nx) ∧ fX10_run_16 fu m (mw T G nx2 (c + 6) fi ar) (c + 6) (nI n) (nI a) = some (r, mw T G nx2 (c + 6) fi' ar') ∧ XI T F' nx c nW nJ fi' ar' ad da bl ql' ∧ MI nW nJ st' fi' ar' bl ql' ∧ st' ≤ st + k ∧ (∀ q, c + 6 ≤ q → q < c + 21 → F' q = F q) := by
  intro k
  induction k with
  | zero =>
    intro m a st F fi ar ql h1 h2 h3 hM hX
    obtain ⟨m, rfl⟩ : ∃ k, m = k + 1 := ⟨m - 1, by omega⟩
    have e : nI n ≤ nI a := nI_le (by omega) (by omega)
    refine ⟨nI a, F, fi, ar, ql, st, ?_, ?_, hX, hM, by omega, fun _ _ _ => rfl⟩
    · simp only [fX9_run_16, e, if_true]
    · simp only [fX10_run_16, e, if_true]
  | succ k ih =>
    intro m a st F fi ar ql h1 h2 h3 hM hX
    obtain ⟨m, rfl⟩ : ∃ k, m = k + 1 := ⟨m - 1, by omega⟩
    have e : ¬ nI n ≤ nI a := nI_ge (by omega) (by omega)
    obtain ⟨hA, kc, s3, s4, s5, s6, s7, s8, s9, s10, s11, s12, k5⟩ := id hX.1
    have hQ := hM.2.2.2.2.2.2
    have mt := m_turn (fu := fu) (G := G) (nx := nx2) (fi := fi) (ar := ar) hT hM.1.2.1 hM.1.2.2.2.1 hQ.2.1 hM.qlt hQ.2.2.1 (by omega)
    cases hql : ql with
    | nil =>
      rw [hql] at mt hX hM
      have e0 : F (c + 5) 0 = .null := hX.2.2.1
      refine ⟨nI a, F, fi, ar, [], st, ?_, ?_, hX, hM, by omega, fun _ _ _ => rfl⟩
      · simp +decide only [fX9_run_16, e, gR_mk kc, s5, gR_mk k5, e0, Option.bind_some, bn2_s, zz_0, zz_1, if_true, if_false, ite_true, ite_false, vI_i, vR_n, vR_r, vR_v, reduceCtorEq]
      · simp +decide only [fX10_run_16, e, Option.bind_some, bn2_s, zz_0, zz_1, if_true, if_false, ite_true, ite_false, vI_i, vR_n, vR_r, vR_v, reduceCtorEq, gI_m hT, gR_m hT, rcv_m hT, pV_m hT, aI_24 hT, sV_24 hT, aI_3 hT, sV_3 hT, aI_18 hT, sV_18 hT, aI_19 hT, sV_19 hT, aI_mZ hT, sV_mZ hT, ui_s, ui_n, ua_s, ua_k, mt, hdQ]
    | cons j tl =>
      have hjl : j < 24 := hM.lt24 (by rw [(hQ.2.1 j).mp (by rw [hql]; simp)]; decide)
      have e0 : F (c + 5) 0 = .ref (ad (200 + j)) := by
        have := hX.2.2.1
        rw [hql] at this
        exact this.1
      have nn : ¬ nI j = (-1 : Int32) := nI_n1 (by omega)
      have hd : hdQ ql = nI j := by rw [hql]; rfl
      rw [hd] at mt
      obtain ⟨r1, F1, fi1, ar1, ql1, st1, x1, y1, z1, u1, v1, w1⟩ := tick_split hT hM hX hfu (by omega) G nx2
      obtain ⟨r2, F2, fi2, ar2, ql2, st2, x2, y2, z2, u2, v2, w2⟩ := ih m (a + 1) st1 F1 fi1 ar1 ql1 (by omega) (by omega) (by omega) u1 z1
      refine ⟨r2, F2, fi2, ar2, ql2, st2, ?_, ?_, z2, u2, by omega, fun q q1 q2 => by rw [w2 q q1 q2, w1 q q1 q2]⟩
      · simp +decide only [fX9_run_16, e, gR_mk kc, s5, gR_mk k5, e0, rcv_mk kc, x1, nI_ad1, Option.bind_some, bn2_s, zz_0, zz_1, if_true, if_false, ite_true, ite_false, vI_i, vR_n, vR_r, vR_v, reduceCtorEq]
        exact x2
      · simp +decide only [fX10_run_16, e, Option.bind_some, bn2_s, zz_0, zz_1, if_true, if_false, ite_true, ite_false, vI_i, vR_n, vR_r, vR_v, reduceCtorEq, gI_m hT, gR_m hT, rcv_m hT, pV_m hT, aI_24 hT, sV_24 hT, aI_3 hT, sV_3 hT, aI_18 hT, sV_18 hT, aI_19 hT, sV_19 hT, aI_mZ hT, sV_mZ hT, ui_s, ui_n, ua_s, ua_k, mt, nn, y1, nI_ad1]
        exact y2
theorem op_run (h : INV T F nx c nW nJ st fi ar ad da bl ql) (hfu : 3001 < fu) (hst : st + 3000 < 2 ^ 31) (x : Int32) : ∃ r S1 S2, fX9_run fu (mkS T F nx) c x = some (r, S1) ∧ fX10_run fu S1 (c + 6) x = some (r, S2) ∧ OUT c nW nJ (st + 3000) S2 := by
  obtain ⟨hT, hF, hM, hX⟩ := id h
  by_cases y1 : x < 0
  · refine ⟨-4, mkS T F nx, mkS T F nx, ?_, ?_, OUT.same h (by omega)⟩
    · simp only [fX9_run, x_between, y1, Option.bind_some, bn2_s, zz_0, zz_1, if_true, if_false, ite_true, ite_false, vI_i, vR_n, vR_r, vR_v, reduceCtorEq]
    · simp only [fX10_run, y1, if_true]
  · by_cases y2 : 3000 < x
    · have y3 : ¬ x ≤ 3000 := i32_nle.mpr y2
      refine ⟨-4, mkS T F nx, mkS T F nx, ?_, ?_, OUT.same h (by omega)⟩
      · simp only [fX9_run, x_between, y1, y2, Option.bind_some, bn2_s, zz_0, zz_1, if_true, if_false, ite_true, ite_false, vI_i, vR_n, vR_r, vR_v, reduceCtorEq]
      · simp only [fX10_run, y1, y3, if_false]
    · have y3 : x ≤ 3000 := i32_nlt.mp y2
      obtain ⟨n, hn, rfl⟩ := nI_of2 (n := 3000) rfl y1 y3
      obtain ⟨r, S1, S2, a1, a2, a3⟩ := two_phase (k := n) (fx := fun S => fX9_run_16 fu fu S c (nI n) 0) (fm := fun S => fX10_run_16 fu fu S (c + 6) (nI n) 0) (nx := nx) (st := st) hT hF (fun G => run_split hT (by omega) hn G nx n fu 0 st F fi ar ql (by omega) (by omega) (by omega) hM hX)
      obtain ⟨T1, F1, nx1, fi1, ar1, ad1, da1, bl1, ql1, st1, b1, b2, b3⟩ := a3
      refine ⟨r, S1, S2, ?_, ?_, T1, F1, nx1, fi1, ar1, ad1, da1, bl1, ql1, st1, by omega, b2, b3⟩
      · simp +decide only [fX9_run, x_between, y1, y2, Option.bind_some, bn2_s, zz_0, zz_1, if_true, if_false, ite_true, ite_false, vI_i, vR_n, vR_r, vR_v, reduceCtorEq]
        exact a1
      · simp only [fX10_run, y1, y3, if_true, if_false]
        exact a2
end RN
