theorem pV4_mk {T : Nat → Option (Nat × Nat)} {F : Nat → Nat → Value} {nx a K k : Nat} {v : Value} (h : kd T a = some K) (hK : K = 2 ∨ K = 3 ∨ K = 5 ∨ K = 6) : pV4 (mkS T F nx) k (some a) v = some (mkS T (u2 F a k v) nx) := by
  simp only [pV4, hk4_mk h hK, show ¬ K = 99 by omega, if_false, pV_mk h]
def Kw (wy : Nat) : Nat := if wy = 1 then 3 else if wy = 2 then 5 else if wy = 4 then 6 else 2
theorem Kw_K (wy : Nat) : Kw wy = 2 ∨ Kw wy = 3 ∨ Kw wy = 5 ∨ Kw wy = 6 := by
  unfold Kw; split
  · omega
  · split
    · omega
    · split <;> omega
section GP
variable {T : Nat → Option (Nat × Nat)} {G : Nat → Nat → Value} {nx z nW fu n : Nat} {fi : Nat → Int32} {ar : Nat → Nat → Int32}
theorem gap_loop (hT : mT T z nW) (h21 : fi 21 = nI n) (hn : n ≤ 1000) : ∀ (m m2 g : Nat), 1 ≤ g → g < n → n - g < m → n - g < m2 → ∃ g', 1 ≤ g' ∧ g' < n ∧ (∀ S, fX9_greatestGapBelow_2 fu m S (nI n) (nI g) = some (nI g', S)) ∧ fX10_widest_4 fu m2 (mw T G nx z fi ar) z (nI g) (nI (3 * g + 1)) = some (nI g', mw T G nx z fi ar) := by
  intro m
  induction m with
  | zero => intro m2 g _ _ h; omega
  | succ m ih =>
    intro m2 g h1 h2 h3 h4
    obtain ⟨m2, rfl⟩ : ∃ k, m2 = k + 1 := ⟨m2 - 1, by omega⟩
    have d1 : ∀ x, (3 : Int32) * nI x = nI (3 * x) := fun x => pk_mul 3 x
    have c1 : ¬ (1000 : Int32) ≤ nI g := nI_ge (b := 1000) (by omega) (by omega)
    by_cases c : 3 * g + 1 < n
    · obtain ⟨g', q1, q2, q3, q4⟩ := ih m2 (3 * g + 1) (by omega) c (by omega) (by omega)
      have c2 : ¬ nI n ≤ nI (3 * g + 1) := nI_ge c (by omega)
      refine ⟨g', q1, q2, fun S => ?_, ?_⟩
      · simp only [fX9_greatestGapBelow_2, c1, d1, nI_ad1, c2, if_false, q3]
      · simp +decide only [fX10_widest_4, Option.bind_some, bn2_s, zz_0, zz_1, if_true, if_false, ite_true, ite_false, vI_i, vR_n, vR_r, vR_v, reduceCtorEq, gI_m hT, gR_m hT, rcv_m hT, pV_m hT, aI_24 hT, sV_24 hT, aI_3 hT, sV_3 hT, aI_18 hT, sV_18 hT, aI_19 hT, sV_19 hT, aI_mZ hT, sV_mZ hT, ui_s, ui_n, ua_s, ua_k, h21, c2, d1, nI_ad1, q4]
    · have c2 : nI n ≤ nI (3 * g + 1) := nI_le (by omega) (by omega)
      refine ⟨g, h1, h2, fun S => ?_, ?_⟩
      · simp only [fX9_greatestGapBelow_2, c1, d1, nI_ad1, c2, if_false, if_true]
      · simp +decide only [fX10_widest_4, Option.bind_some, bn2_s, zz_0, zz_1, if_true, if_false, ite_true, ite_false, vI_i, vR_n, vR_r, vR_v, reduceCtorEq, gI_m hT, gR_m hT, rcv_m hT, pV_m hT, aI_24 hT, sV_24 hT, aI_3 hT, sV_3 hT, aI_18 hT, sV_18 hT, aI_19 hT, sV_19 hT, aI_mZ hT, sV_mZ hT, ui_s, ui_n, ua_s, ua_k, h21, c2]
theorem gap_j (hT : mT T z nW) (h21 : fi 21 = nI n) (hn : n ≤ 1000) (h2 : 2 ≤ n) (hfu : 1001 < fu) : ∃ g', 1 ≤ g' ∧ g' < n ∧ (∀ S, fX9_greatestGapBelow fu S (nI n) = some (nI g', S)) ∧ fX10_widest fu (mw T G nx z fi ar) z = some (nI g', mw T G nx z fi ar) := by
  obtain ⟨m, rfl⟩ : ∃ k, fu = k + 1 := ⟨fu - 1, by omega⟩
  have c2 : ¬ nI n ≤ (1 : Int32) := nI_ge (a := 1) (by omega) (by omega)
  obtain ⟨g', q1, q2, q3, q4⟩ := gap_loop (fu := m + 1) (G := G) (nx := nx) (ar := ar) hT h21 hn (m + 1) m 1 (by omega) (by omega) (by omega) (by omega)
  refine ⟨g', q1, q2, q3, ?_⟩
  have d1 : (3 : Int32) * 1 + 1 = nI (3 * 1 + 1) := rfl
  simp +decide only [fX10_widest, fX10_widest_4, Option.bind_some, bn2_s, zz_0, zz_1, if_true, if_false, ite_true, ite_false, vI_i, vR_n, vR_r, vR_v, reduceCtorEq, gI_m hT, gR_m hT, rcv_m hT, pV_m hT, aI_24 hT, sV_24 hT, aI_3 hT, sV_3 hT, aI_18 hT, sV_18 hT, aI_19 hT, sV_19 hT, aI_mZ hT, sV_mZ hT, ui_s, ui_n, ua_s, ua_k, h21, c2, d1]
  exact q4
theorem gap_0 (hn : n < 2) (hfu : 0 < fu) (S : hS) : fX9_greatestGapBelow fu S (nI n) = some (1, S) := by
  obtain ⟨m, rfl⟩ : ∃ k, fu = k + 1 := ⟨fu - 1, by omega⟩
  have c2 : nI n ≤ (3 : Int32) * 1 + 1 := nI_le (b := 4) (by omega) (by omega)
  simp +decide only [fX9_greatestGapBelow, fX9_greatestGapBelow_2, c2, if_true, if_false]
theorem wid_0 (hT : mT T z nW) (h21 : fi 21 = nI n) (hn : n < 2) (hfu : 0 < fu) : fX10_widest fu (mw T G nx z fi ar) z = some (0, mw T G nx z fi ar) := by
  obtain ⟨m, rfl⟩ : ∃ k, fu = k + 1 := ⟨fu - 1, by omega⟩
  have c2 : nI n ≤ (1 : Int32) := nI_le (b := 1) (by omega) (by omega)
  simp +decide only [fX10_widest, fX10_widest_4, Option.bind_some, bn2_s, zz_0, zz_1, if_true, if_false, ite_true, ite_false, vI_i, vR_n, vR_r, vR_v, reduceCtorEq, gI_m hT, gR_m hT, rcv_m hT, pV_m hT, aI_24 hT, sV_24 hT, aI_3 hT, sV_3 hT, aI_18 hT, sV_18 hT, aI_19 hT, sV_19 hT, aI_mZ hT, sV_mZ hT, ui_s, ui_n, ua_s, ua_k, h21, c2]
end GP
section BG
variable {T : Nat → Option (Nat × Nat)} {F G : Nat → Nat → Value} {nx nx2 c nW fu sa ca ba K f n bf z j wy : Nat} {gi fi : Nat → Int32} {ar : Nat → Nat → Int32} {w : Nat → Int32}
/-- what is known of a sorting of fewer than two numbers -/
def yS (T : Nat → Option (Nat × Nat)) (c sa K : Nat) : Prop := kd T sa = some K ∧ sa ≠ c + 2 ∧ (K = 2 ∨ K = 3 ∨ K = 5 ∨ K = 6)
theorem ys_sa (h : yS T c sa K) : wF (oF F sa (gS c ca ba K gi)) c w sa = gS c ca ba K gi := by rw [wF_n h.2.1]; simp [oF]
theorem gI_y (h : yS T c sa K) {k : Nat} (hk : k ≠ 0 ∧ k ≠ 1 ∧ ¬ (k = 4 ∧ (K = 5 ∨ K = 6))) : gI (xs T F nx c sa ca ba K gi w) K k (some sa) = some (gi k) := by
  rw [gI_mk h.1, ys_sa h]; simp only [gS, hk, if_false]; rfl
theorem rcv_y (h : yS T c sa K) : rcv (xs T F nx c sa ca ba K gi w) K (some sa) = some sa := rcv_mk h.1
theorem pV_y (h : yS T c sa K) {k : Nat} {x : Int32} (hk : k ≠ 0 ∧ k ≠ 1 ∧ ¬ (k = 4 ∧ (K = 5 ∨ K = 6))) : pV (xs T F nx c sa ca ba K gi w) K k (some sa) (.int x) = some (xs T F nx c sa ca ba K (ui gi k x) w) := by
  rw [pV_mk h.1]
  congr 2
  funext q k'
  by_cases e : q = sa
  · subst e
    rw [ys_sa h]
    by_cases e2 : k' = k
    · subst e2
      simp only [u2, and_self, if_true, gS, hk, if_false, ui_s]
    · simp only [u2, e2, and_false, if_false]
      rw [ys_sa h]
      simp only [gS]
      rw [ui_n _ _ e2]
  · simp only [u2, e, false_and, if_false, wF, oF]
theorem x_begin0 (h : yS T c sa K) (g2 : gi 2 = nI n) (g3 : gi 3 = nI 1) : ∃ gi', dS_begin fu (xs T F nx c sa ca ba K gi w) (some sa) = some ((), xs T F nx c sa ca ba K gi' w) ∧ gi' 2 = nI n ∧ gi' 3 = nI 1 := by
  have h4 := hk4_mk (F := wF (oF F sa (gS c ca ba K gi)) c w) (nx := nx) h.1 h.2.2
  have hz : ¬ (nI 1 : Int32) = 0 := by decide
  have hK := h.2.2
  rcases hK with rfl | rfl | rfl | rfl
  · refine ⟨ui (ui gi 5 (gi 4)) 6 (gi 4), ?_, ?_, ?_⟩
    · simp +decide only [dS_begin, h4, fX2_begin, gI_y h, pV_y h, rcv_y h, ui_s, ui_n, Option.bind_some, bn2_s, zz_0, zz_1, if_true, if_false, ite_true, ite_false, vI_i, vR_n, vR_r, vR_v, reduceCtorEq]
    · simp +decide only [ui_s, ui_n, g2]
    · simp +decide only [ui_s, ui_n, g3]
  · simp +decide only [dS_begin, h4, fX3_begin, fX3_sinkFrom, fX3_sinkFrom_33, gI_y h, pV_y h, rcv_y h, ui_s, ui_n, Option.bind_some, bn2_s, zz_0, zz_1, if_true, if_false, ite_true, ite_false, vI_i, vR_n, vR_r, vR_v, reduceCtorEq]
    split
    · refine ⟨_, rfl, ?_, ?_⟩
      · simp +decide only [ui_s, ui_n, g2]
      · simp +decide only [ui_s, ui_n, g3]
    · refine ⟨_, rfl, ?_, ?_⟩
      · simp +decide only [ui_s, ui_n, g2]
      · simp +decide only [ui_s, ui_n, g3]
  · simp +decide only [dS_begin, h4, fX5_begin, fX5_standAt, gI_y h, pV_y h, rcv_y h, ui_s, ui_n, Option.bind_some, bn2_s, zz_0, zz_1, if_true, if_false, ite_true, ite_false, vI_i, vR_n, vR_r, vR_v, reduceCtorEq]
    refine ⟨_, rfl, ?_, ?_⟩
    · simp +decide only [ui_s, ui_n, g2]
    · simp +decide only [ui_s, ui_n, g3]
  · simp +decide only [dS_begin, h4, fX6_begin, gI_y h, pV_y h, rcv_y h, ui_s, ui_n, g3, hz, Option.bind_some, bn2_s, zz_0, zz_1, if_true, if_false, ite_true, ite_false, vI_i, vR_n, vR_r, vR_v, reduceCtorEq]
    refine ⟨_, rfl, ?_, ?_⟩
    · simp +decide only [ui_s, ui_n, g2]
    · simp +decide only [ui_s, ui_n, g3]
theorem m_begin0 (hT : mT T z nW) (h20 : fi 20 = nI j) (hj : j < 24) (h21 : fi 21 = nI n) (hn : n < 2) (hw : ar 6 j = nI wy) (hwy : wy ≤ 4) (hfu : 1001 < fu) : ∃ fi', fX10_begins fu (mw T G nx z fi ar) z = some (0, mw T G nx z fi' ar) ∧ fEq fi fi' := by
  have c2 : nI n ≤ (1 : Int32) := nI_le (b := 1) (by omega) (by omega)
  have c3 : ¬ (2 : Int32) ≤ nI n := nI_ge (b := 2) (by omega) (by omega)
  have wd := wid_0 (G := G) (nx := nx) (ar := ar) hT h21 hn (show 0 < fu by omega)
  have hle : (0 : Int32) ≤ 0 := by decide
  obtain ⟨m, hm⟩ : ∃ k, fu = k + 1 := ⟨fu - 1, by omega⟩
  have hcs : wy = 0 ∨ wy = 1 ∨ wy = 2 ∨ wy = 3 ∨ wy = 4 := by omega
  have hst : ∃ fi', fX10_stepsBegin fu (mw T G nx z fi ar) z 0 = some (0, mw T G nx z fi' ar) ∧ fEq fi fi' := by
    refine ⟨ui (ui (ui fi 22 0) 23 0) 24 0, ?_, ((((fEq.rf fi).ui _ (by omega)).ui _ (by omega)).ui _ (by omega))⟩
    simp +decide only [fX10_stepsBegin, Option.bind_some, bn2_s, zz_0, zz_1, if_true, if_false, ite_true, ite_false, vI_i, vR_n, vR_r, vR_v, reduceCtorEq, gI_m hT, gR_m hT, rcv_m hT, pV_m hT, aI_24 hT, sV_24 hT, aI_3 hT, sV_3 hT, aI_18 hT, sV_18 hT, aI_19 hT, sV_19 hT, aI_mZ hT, sV_mZ hT, ui_s, ui_n, ua_s, ua_k]
  rcases hcs with rfl | rfl | rfl | rfl | rfl
  · obtain ⟨fi', q1, q2⟩ := hst
    refine ⟨fi', ?_, q2⟩
    simp +decide only [fX10_begins, fX10_begins_54, Option.bind_some, bn2_s, zz_0, zz_1, if_true, if_false, ite_true, ite_false, vI_i, vR_n, vR_r, vR_v, reduceCtorEq, gI_m hT, gR_m hT, rcv_m hT, pV_m hT, aI_24 hT, sV_24 hT, aI_3 hT, sV_3 hT, aI_18 hT, sV_18 hT, aI_19 hT, sV_19 hT, aI_mZ hT, sV_mZ hT, ui_s, ui_n, ua_s, ua_k, h20, hj, hw, h21, c2, show nI 0 = (0 : Int32) from rfl, q1]
  · have d0 : nI n / (2 : Int32) = 0 := by
      rcases (show n = 0 ∨ n = 1 by omega) with rfl | rfl <;> decide
    have d1 : ¬ (1 : Int32) ≤ nI n - 1 := by
      rcases (show n = 0 ∨ n = 1 by omega) with rfl | rfl <;> decide
    refine ⟨ui (ui (ui fi 26 0) 27 (nI n)) 27 (nI n - 1), ?_, ((((fEq.rf fi).ui _ (by omega)).ui _ (by omega)).ui _ (by omega))⟩
    subst hm
    simp +decide only [fX10_begins, fX10_heapBegins, fX10_heapNext, fX10_heapNext_0, Option.bind_some, bn2_s, zz_0, zz_1, if_true, if_false, ite_true, ite_false, vI_i, vR_n, vR_r, vR_v, reduceCtorEq, gI_m hT, gR_m hT, rcv_m hT, pV_m hT, aI_24 hT, sV_24 hT, aI_3 hT, sV_3 hT, aI_18 hT, sV_18 hT, aI_19 hT, sV_19 hT, aI_mZ hT, sV_mZ hT, ui_s, ui_n, ua_s, ua_k, h20, hj, hw, h21, show nI 1 = (1 : Int32) from rfl, d0, d1, hle]
  · refine ⟨ui (ui fi 31 1) 28 0, ?_, (((fEq.rf fi).ui _ (by omega)).ui _ (by omega))⟩
    simp +decide only [fX10_begins, fX10_mergeBegins, Option.bind_some, bn2_s, zz_0, zz_1, if_true, if_false, ite_true, ite_false, vI_i, vR_n, vR_r, vR_v, reduceCtorEq, gI_m hT, gR_m hT, rcv_m hT, pV_m hT, aI_24 hT, sV_24 hT, aI_3 hT, sV_3 hT, aI_18 hT, sV_18 hT, aI_19 hT, sV_19 hT, aI_mZ hT, sV_mZ hT, ui_s, ui_n, ua_s, ua_k, h20, hj, hw, h21, c3, show nI 2 = (2 : Int32) from rfl]
  · obtain ⟨fi', q1, q2⟩ := hst
    refine ⟨fi', ?_, q2⟩
    simp +decide only [fX10_begins, Option.bind_some, bn2_s, zz_0, zz_1, if_true, if_false, ite_true, ite_false, vI_i, vR_n, vR_r, vR_v, reduceCtorEq, gI_m hT, gR_m hT, rcv_m hT, pV_m hT, aI_24 hT, sV_24 hT, aI_3 hT, sV_3 hT, aI_18 hT, sV_18 hT, aI_19 hT, sV_19 hT, aI_mZ hT, sV_mZ hT, ui_s, ui_n, ua_s, ua_k, h20, hj, hw, h21, wd, show nI 3 = (3 : Int32) from rfl, q1]
  · refine ⟨ui fi 30 0, ?_, (fEq.rf fi).ui _ (by omega)⟩
    simp +decide only [fX10_begins, Option.bind_some, bn2_s, zz_0, zz_1, if_true, if_false, ite_true, ite_false, vI_i, vR_n, vR_r, vR_v, reduceCtorEq, gI_m hT, gR_m hT, rcv_m hT, pV_m hT, aI_24 hT, sV_24 hT, aI_3 hT, sV_3 hT, aI_18 hT, sV_18 hT, aI_19 hT, sV_19 hT, aI_mZ hT, sV_mZ hT, ui_s, ui_n, ua_s, ua_k, h20, hj, hw, h21, c2, show nI 4 = (4 : Int32) from rfl]
end BG
