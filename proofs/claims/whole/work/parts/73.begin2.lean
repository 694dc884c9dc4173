section BH
variable {T : Nat → Option (Nat × Nat)} {F G : Nat → Nat → Value} {nx nx2 c nW fu sa ca ba K f n bf z j wy g : Nat} {gi fi : Nat → Int32} {ar : Nat → Nat → Int32} {w : Nat → Int32}
/-- the fields of a new sorting -/
def nG (K : Nat) (gi : Nat → Int32) (n o g : Nat) : Prop := gi 2 = nI n ∧ gi 3 = nI o ∧ (K = 2 → gi 4 = nI g) ∧ (K = 5 ∨ K = 6 → gi 5 = nI 0)
theorem s_begin (hx : xS T F c nW sa ca ba (Kw wy) f n) (hxb : sX T F nW wy ba bf n) (hm : mS T z nW fi ar j f n) (hmb : sM ar nW wy j f n bf) (h2 : 2 ≤ n) (hg : nG (Kw wy) gi n 0 g) (hg0 : wy = 0 → g = 1) (hg3 : wy = 3 → 1 ≤ g ∧ g < n ∧ fX10_widest fu (mw T G nx2 z fi (aw ar w)) z = some (nI g, mw T G nx2 z fi (aw ar w))) (hfu : 1001 < fu) :
    ∃ gi' fi' w', dS_begin fu (xs T F nx c sa ca ba (Kw wy) gi w) (some sa) = some ((), xs T F nx c sa ca ba (Kw wy) gi' w') ∧ fX10_begins fu (mw T G nx2 z fi (aw ar w)) z = some (1, mw T G nx2 z fi' (aw ar w')) ∧ gi' 2 = nI n ∧ gi' 3 = nI 0 ∧ fEq fi fi' ∧ SR wy (Kw wy) gi' fi' w' n bf ∧ wfr w w' f n bf (bz wy n) := by
  have hk0 := hk4_x (nx := nx) (gi := gi) (w := w) hx
  obtain ⟨hmb1, hwy, hmb2⟩ := hmb
  obtain ⟨hT, k1, k2, k3, k4, k5, k6⟩ := id hm
  obtain ⟨g2, g3, g4, g5⟩ := hg
  have c1 : ¬ nI n ≤ (1 : Int32) := nI_ge (a := 1) (by omega) (by omega)
  have hcs : wy = 0 ∨ wy = 1 ∨ wy = 2 ∨ wy = 3 ∨ wy = 4 := by omega
  have mk : ∀ w', mS T z nW fi (aw ar w') j f n := fun w' => ⟨hT, k1, k2, by rw [aw_n _ _ (by decide)]; exact k3, k4, k5, k6⟩
  obtain ⟨m, hm1⟩ : ∃ k, fu = k + 1 := ⟨fu - 1, by omega⟩
  have gap : (wy = 0 ∨ wy = 3) → Kw wy = 2 → 1 ≤ g → g < n → ∃ fi', fX10_stepsBegin fu (mw T G nx2 z fi (aw ar w)) z (nI g) = some (1, mw T G nx2 z fi' (aw ar w)) ∧ fEq fi fi' ∧ fi' 22 = nI g ∧ fi' 23 = nI g ∧ fi' 24 = nI g := by
    intro _ _ q1 q2
    have hfe : fEq fi (ui (ui (ui fi 22 (nI g)) 23 (nI g)) 24 (nI g)) := ((((fEq.rf fi).ui _ (by omega)).ui _ (by omega)).ui _ (by omega))
    have st := m_stand_ok (fu := fu) (G := G) (nx := nx2) ((mk w).fx hfe) (g := g) (i := g) (k := g) (by simp +decide only [ui_s, ui_n]) (by simp +decide only [ui_s, ui_n]) (by simp +decide only [ui_s, ui_n]) q1 q2 (Nat.le_refl _) (by omega) m
    have e : ¬ nI g ≤ 0 := nI_nle (by omega) (by omega)
    refine ⟨_, ?_, hfe, by simp +decide only [ui_s, ui_n], by simp +decide only [ui_s, ui_n], by simp +decide only [ui_s, ui_n]⟩
    rw [← hm1] at st
    simp +decide only [fX10_stepsBegin, fX10_stepsStand, Option.bind_some, bn2_s, zz_0, zz_1, if_true, if_false, ite_true, ite_false, vI_i, vR_n, vR_r, vR_v, reduceCtorEq, gI_m hT, gR_m hT, rcv_m hT, pV_m hT, aI_24 hT, sV_24 hT, aI_3 hT, sV_3 hT, aI_18 hT, sV_18 hT, aI_19 hT, sV_19 hT, aI_mZ hT, sV_mZ hT, ui_s, ui_n, ua_s, ua_k, e, st]
  have gapx : Kw wy = 2 → ∃ gi', dS_begin fu (xs T F nx c sa ca ba (Kw wy) gi w) (some sa) = some ((), xs T F nx c sa ca ba (Kw wy) gi' w) ∧ gEq gi' n g g g 0 := by
    intro e
    have e4 := g4 e
    rw [e] at hx hk0 ⊢
    refine ⟨ui (ui gi 5 (gi 4)) 6 (gi 4), ?_, ?_⟩
    · simp +decide only [dS_begin, hk0, fX2_begin, gI_x hx, pV_x hx, rcv_x hx, ui_s, ui_n, Option.bind_some, bn2_s, zz_0, zz_1, if_true, if_false, ite_true, ite_false, vI_i, vR_n, vR_r, vR_v, reduceCtorEq]
    · simp +decide only [gEq, ui_s, ui_n, g2, g3, e4, and_self]
  rcases hcs with rfl | rfl | rfl | rfl | rfl
  · obtain rfl := hg0 rfl
    obtain ⟨gi', x1, x2⟩ := gapx rfl
    obtain ⟨fi', m1, m2, m3, m4, m5⟩ := gap (Or.inl rfl) rfl (by omega) (by omega)
    refine ⟨gi', fi', w, x1, ?_, x2.1, x2.2.1, m2, Or.inl ⟨Or.inl rfl, rfl, 1, 1, 1, x2, m3, m4, m5, by omega, by omega, by omega, by omega, fun _ => rfl⟩, wfr.rf _ _ _ _ _⟩
    rw [show nI 1 = (1 : Int32) from rfl] at m1
    simp +decide only [fX10_begins, fX10_begins_54, Option.bind_some, bn2_s, zz_0, zz_1, if_true, if_false, ite_true, ite_false, vI_i, vR_n, vR_r, vR_v, reduceCtorEq, gI_m hT, gR_m hT, rcv_m hT, pV_m hT, aI_24 hT, sV_24 hT, aI_3 hT, sV_3 hT, aI_18 hT, sV_18 hT, aI_19 hT, sV_19 hT, aI_mZ hT, sV_mZ hT, ui_s, ui_n, ua_s, ua_k, k1, k2, aw_n, hmb1, k5, c1, show nI 0 = (0 : Int32) from rfl, m1]
  · have d1 : nI n / (2 : Int32) = nI (n / 2) := pk_div (d := 2) (by omega) (by omega) (by omega)
    have d2 : nI (n / 2) - (1 : Int32) = nI (n / 2 - 1) := pk_sub (b := 1) (by omega)
    have hfe : fEq fi (ui (ui fi 26 (nI (n / 2))) 27 (nI n)) := ((fEq.rf fi).ui _ (by omega)).ui _ (by omega)
    obtain ⟨m2, hm2⟩ : ∃ k, fu = k + 2 := ⟨fu - 2, by omega⟩
    obtain ⟨fi', m1, m3, m4⟩ := m_heapNext (fu := fu) (G := G) (nx := nx2) (w := w) (hm.fx hfe) (root := n / 2) (e := n) (by simp +decide only [ui_s, ui_n]) (by simp +decide only [ui_s, ui_n]) h2 (Nat.le_refl _) (fun _ => rfl) (by omega) (by omega) (by omega) m2
    have hN : hNx w f (n / 2) n = (w, n / 2 - 1, n, n / 2 - 1, 2 * (n / 2 - 1) + 1, hBt (n / 2 - 1) n, 0) := by unfold hNx; rw [if_pos (by omega)]
    rw [hN] at m1 m4
    obtain ⟨gi', x1, x2⟩ := x_sink (fu := fu) (nx := nx) (w := w) (gi := ui (ui gi 4 (nI (n / 2 - 1))) 5 (nI n)) hx (n := n) (root := n / 2 - 1) (e := n) (x := n / 2 - 1) (o := 0) (by simp +decide only [ui_s, ui_n, g2]) (by simp +decide only [ui_s, ui_n, g3]) (by simp +decide only [ui_s, ui_n]) (by simp +decide only [ui_s, ui_n]) k6 (by omega)
    refine ⟨gi', fi', w, ?_, ?_, x2.1, x2.2.1, fun q hq => by rw [m3 q hq, hfe q hq], Or.inr (Or.inl ⟨rfl, rfl, n / 2 - 1, n, n / 2 - 1, 2 * (n / 2 - 1) + 1, hBt (n / 2 - 1) n, x2, m4 rfl, ?_⟩), wfr.rf _ _ _ _ _⟩
    · have hx' : xS T F c nW sa ca ba 3 f n := hx
      have hk' : hk4 (xs T F nx c sa ca ba 3 gi w) (some sa) = 3 := hk0
      show dS_begin fu (xs T F nx c sa ca ba 3 gi w) (some sa) = some ((), xs T F nx c sa ca ba 3 gi' w)
      simp +decide only [dS_begin, hk', fX3_begin, gI_x hx', pV_x hx', rcv_x hx', ui_s, ui_n, g2, d1, d2, x1, Option.bind_some, bn2_s, zz_0, zz_1, if_true, if_false, ite_true, ite_false, vI_i, vR_n, vR_r, vR_v, reduceCtorEq]
    · rw [← hm2] at m1
      simp +decide only [fX10_begins, fX10_heapBegins, fX10_heapNext, Option.bind_some, bn2_s, zz_0, zz_1, if_true, if_false, ite_true, ite_false, vI_i, vR_n, vR_r, vR_v, reduceCtorEq, gI_m hT, gR_m hT, rcv_m hT, pV_m hT, aI_24 hT, sV_24 hT, aI_3 hT, sV_3 hT, aI_18 hT, sV_18 hT, aI_19 hT, sV_19 hT, aI_mZ hT, sV_mZ hT, ui_s, ui_n, ua_s, ua_k, k1, k2, aw_n, hmb1, k5, d1, show nI 1 = (1 : Int32) from rfl, m1]
    · unfold hIv hBt
      refine ⟨h2, Nat.le_refl _, by omega, by omega, ?_, fun _ => rfl, by omega, ?_, k6⟩
      · split <;> omega
      · split <;> omega
  · have hM : mM T z nW fi ar j f n bf := ⟨hm, (hmb2 (by omega)).1, (hmb2 (by omega)).2.1, (hmb2 (by omega)).2.2⟩
    have hfe : fEq fi (ui (ui fi 31 1) 28 0) := ((fEq.rf fi).ui _ (by omega)).ui _ (by omega)
    have hM1 : mM T z nW (ui (ui fi 31 1) 28 0) ar j f n bf := ⟨hm.fx hfe, hM.2⟩
    obtain ⟨fi', m1, m3, m4⟩ := m_rows (fu := fu) (G := G) (nx := nx2) (w := w) hM1 (q := 0) (wd := 1) (l := 0) (by simp +decide only [ui_s, ui_n] <;> rfl) (by simp +decide only [ui_s, ui_n] <;> rfl) (by omega) (by omega)
    rw [show nI 0 = (0 : Int32) from rfl] at m1
    have c3 : (2 : Int32) ≤ nI n := nI_le (a := 2) (by omega) (by omega)
    have e1 : min (0 + 1) n = 1 := by omega
    have e2 : min (0 + 2 * 1) n = 2 := by omega
    rw [e1, e2] at m4
    obtain ⟨gi', x1, x2⟩ := x_standAt (fu := fu) (nx := nx) (w := w) (gi := ui gi 6 1) hx (n := n) (o := 0) (q := 0) (wd := 1) (l := 0) (by simp +decide only [ui_s, ui_n, g2]) (by simp +decide only [ui_s, ui_n, g3]) (by rw [ui_n _ _ (by decide)]; exact g5 (Or.inl rfl)) (by simp +decide only [ui_s, ui_n] <;> rfl) (by omega) (by omega)
    rw [e1, e2] at x2
    rw [show nI 0 = (0 : Int32) from rfl] at x1
    obtain ⟨y1, y2, y3, y4, y5, y6, y7, y8⟩ := id m4
    refine ⟨gi', fi', w, ?_, ?_, x2.1, x2.2.1, fun q hq => by rw [m3 q hq, hfe q hq], Or.inr (Or.inr (Or.inl ⟨rfl, rfl, 0, 1, 0, 0, 1, 1, 2, 0, x2, m4, ?_⟩)), wfr.rf _ _ _ _ _⟩
    · have hx' : xS T F c nW sa ca ba 5 f n := hx
      have hk' : hk4 (xs T F nx c sa ca ba 5 gi w) (some sa) = 5 := hk0
      show dS_begin fu (xs T F nx c sa ca ba 5 gi w) (some sa) = some ((), xs T F nx c sa ca ba 5 gi' w)
      simp +decide only [dS_begin, hk', fX5_begin, gI_x hx', pV_x hx', rcv_x hx', ui_s, ui_n, x1, Option.bind_some, bn2_s, zz_0, zz_1, if_true, if_false, ite_true, ite_false, vI_i, vR_n, vR_r, vR_v, reduceCtorEq]
    · have z1 : ¬ nI 1 ≤ nI 0 := by decide
      have z2 : ¬ nI 2 ≤ nI 1 := by decide
      simp +decide only [fX10_begins, fX10_mergeBegins, fX10_mergeStands, Option.bind_some, bn2_s, zz_0, zz_1, if_true, if_false, ite_true, ite_false, vI_i, vR_n, vR_r, vR_v, reduceCtorEq, gI_m hT, gR_m hT, rcv_m hT, pV_m hT, aI_24 hT, sV_24 hT, aI_3 hT, sV_3 hT, aI_18 hT, sV_18 hT, aI_19 hT, sV_19 hT, aI_mZ hT, sV_mZ hT, ui_s, ui_n, ua_s, ua_k, k1, k2, aw_n, hmb1, k5, c3, show nI 2 = (2 : Int32) from rfl, m1]
      rw [hm1, fX10_mergeStands_0]
      simp +decide only [Option.bind_some, bn2_s, zz_0, zz_1, if_true, if_false, ite_true, ite_false, vI_i, vR_n, vR_r, vR_v, reduceCtorEq, gI_m hT, gR_m hT, rcv_m hT, pV_m hT, aI_24 hT, sV_24 hT, aI_3 hT, sV_3 hT, aI_18 hT, sV_18 hT, aI_19 hT, sV_19 hT, aI_mZ hT, sV_mZ hT, ui_s, ui_n, ua_s, ua_k, y4, y5, y6, y7]
    · refine ⟨⟨by omega, by omega, k6, by omega, by omega, by omega, by omega, by omega, by omega, by omega, by omega⟩, by omega, by omega⟩
  · obtain ⟨q1, q2, q3⟩ := hg3 rfl
    obtain ⟨gi', x1, x2⟩ := gapx rfl
    obtain ⟨fi', m1, m2, m3, m4, m5⟩ := gap (Or.inr rfl) rfl q1 q2
    refine ⟨gi', fi', w, x1, ?_, x2.1, x2.2.1, m2, Or.inl ⟨Or.inr rfl, rfl, g, g, g, x2, m3, m4, m5, q1, Nat.le_refl _, Nat.le_refl _, q2, fun h => by omega⟩, wfr.rf _ _ _ _ _⟩
    simp +decide only [fX10_begins, fX10_begins_54, Option.bind_some, bn2_s, zz_0, zz_1, if_true, if_false, ite_true, ite_false, vI_i, vR_n, vR_r, vR_v, reduceCtorEq, gI_m hT, gR_m hT, rcv_m hT, pV_m hT, aI_24 hT, sV_24 hT, aI_3 hT, sV_3 hT, aI_18 hT, sV_18 hT, aI_19 hT, sV_19 hT, aI_mZ hT, sV_mZ hT, ui_s, ui_n, ua_s, ua_k, k1, k2, aw_n, hmb1, k5, c1, show nI 3 = (3 : Int32) from rfl, q3, m1]
  · have hQ : mQ T z nW (ui fi 30 0) ar j f n bf := ⟨hm.fx ((fEq.rf fi).ui _ (by omega)), (hmb2 (by omega)).1, (hmb2 (by omega)).2.1, (hmb2 (by omega)).2.2⟩
    obtain ⟨fi', m1, m3, m4⟩ := m_range (fu := fu) (G := G) (nx := nx2) (w := w) hQ (t := 0) (a := 0) (b := n - 1) (by simp +decide only [ui_s, ui_n] <;> rfl) (by omega) (by omega)
    have d2 : nI n - (1 : Int32) = nI (n - 1) := pk_sub (b := 1) (by omega)
    obtain ⟨gi', x1, x2⟩ := x_startRange (fu := fu) (nx := nx) (w := w) (gi := ui (ui gi 6 0) 7 (nI (n - 1))) hx (n := n) (o := 0) (t := 0) (l := 0) (h1 := n - 1) (by simp +decide only [ui_s, ui_n, g2]) (by simp +decide only [ui_s, ui_n, g3]) (by rw [ui_n _ _ (by decide), ui_n _ _ (by decide)]; exact g5 (Or.inr rfl)) (by simp +decide only [ui_s, ui_n] <;> rfl) (by simp +decide only [ui_s, ui_n]) (by omega) (by omega)
    refine ⟨gi', fi', (qRng f w 0 0 (n - 1)).1, ?_, ?_, x2.1, x2.2.1, fun q hq => by rw [m3 q hq, ui_n _ _ (by omega)], Or.inr (Or.inr (Or.inr ⟨rfl, rfl, 0, 0, n - 1, 0, 0, x2, m4, ?_⟩)), qRng_fr (wfr.rf _ _ _ _ _) (by omega) (by omega)⟩
    · have hx' : xS T F c nW sa ca ba 6 f n := hx
      have hk' : hk4 (xs T F nx c sa ca ba 6 gi w) (some sa) = 6 := hk0
      show dS_begin fu (xs T F nx c sa ca ba 6 gi w) (some sa) = some ((), xs T F nx c sa ca ba 6 gi' _)
      simp +decide only [dS_begin, hk', fX6_begin, gI_x hx', pV_x hx', rcv_x hx', ui_s, ui_n, g2, g3, d2, show nI 0 = (0 : Int32) from rfl, x1, Option.bind_some, bn2_s, zz_0, zz_1, if_true, if_false, ite_true, ite_false, vI_i, vR_n, vR_r, vR_v, reduceCtorEq]
    · rw [show nI 0 = (0 : Int32) from rfl] at m1
      simp +decide only [fX10_begins, Option.bind_some, bn2_s, zz_0, zz_1, if_true, if_false, ite_true, ite_false, vI_i, vR_n, vR_r, vR_v, reduceCtorEq, gI_m hT, gR_m hT, rcv_m hT, pV_m hT, aI_24 hT, sV_24 hT, aI_3 hT, sV_3 hT, aI_18 hT, sV_18 hT, aI_19 hT, sV_19 hT, aI_mZ hT, sV_mZ hT, ui_s, ui_n, ua_s, ua_k, k1, k2, aw_n, hmb1, k5, c1, d2, show nI 4 = (4 : Int32) from rfl, m1]
    · exact ⟨by omega, by omega, by omega, by omega, by omega, k6, by omega, fun i hi => by omega⟩
/-- a new sorting object -/
theorem x_init8 {T : Nat → Option (Nat × Nat)} {F : Nat → Nat → Value} {a K c ca n : Nat} (hk : kd T a = some K) (hK : K = 2 ∨ K = 3 ∨ K = 5 ∨ K = 6) (hca : kd T ca = some 1) (h1 : F ca 1 = .int (nI n)) (hn : n ≤ 1000) :
    fX8_init fu (mkS T F nx) a (some (c + 1)) (some ca) = some ((), mkS T (u2 (u2 (u2 (u2 F a 0 (.ref (c + 1))) a 1 (.ref ca)) a 2 (.int (nI n))) a 3 (.int (nI (if n < 2 then 1 else 0)))) nx) := by
  have hne : ca ≠ a := fun e => by rw [e, hk] at hca; injection hca with h; omega
  have e1 : u2 (u2 F a 0 (.ref (c + 1))) a 1 (.ref ca) ca 1 = .int (nI n) := by simp [u2, hne, h1]
  have e2 : ∀ F v, u2 F a 2 v a 2 = v := fun F v => by simp [u2]
  simp only [fX8_init, fX8_init_36, pV4_mk hk hK, gI_mk hca, gI4_mk hk hK, va_rf, Option.bind_some, e1, e2, vI_i]
  by_cases c : n < 2
  · have c2 : ¬ (2 : Int32) ≤ nI n := nI_ge (b := 2) c (by omega)
    rw [if_neg c2]
    simp only [zz_1, Option.bind_some, pV4_mk hk hK, c, if_true]; rfl
  · have c2 : (2 : Int32) ≤ nI n := nI_le (a := 2) (by omega) (by omega)
    rw [if_pos c2]
    simp only [zz_0, Option.bind_some, pV4_mk hk hK, c, if_false]; rfl
def tN (T : Nat → Option (Nat × Nat)) (nx K : Nat) : Nat → Option (Nat × Nat) := fun q => if q = nx then some (K, hNf K) else T q
theorem tN_kd {q k : Nat} (hT : T nx = none) (h : kd T q = some k) : kd (tN T nx K) q = some k := by
  have : q ≠ nx := fun e => by rw [e] at h; simp [kd, hT] at h
  simp only [kd, tN, this, if_false]; exact h
theorem tN_s : kd (tN T nx K) nx = some K := by simp [kd, tN]
theorem tN_ln {q k : Nat} (hT : T nx = none) (h : kd T q = some k) : ln (tN T nx K) q = ln T q := by
  have : q ≠ nx := fun e => by rw [e] at h; simp [kd, hT] at h
  simp only [ln, tN, this, if_false]
theorem hdf_23 {K k : Nat} (hK : K = 2 ∨ K = 3) (h : 4 ≤ k) : hdf K k = .int 0 := by
  obtain ⟨m, rfl⟩ : ∃ m, k = m + 4 := ⟨k - 4, by omega⟩
  rcases hK with rfl | rfl <;> rcases m with _ | _ | _ | _ | _ | _ | _ | _ | m <;> rfl
theorem hdf_56 {K k : Nat} (hK : K = 5 ∨ K = 6) (h : 5 ≤ k) : hdf K k = .int 0 := by
  obtain ⟨m, rfl⟩ : ∃ m, k = m + 5 := ⟨k - 5, by omega⟩
  rcases hK with rfl | rfl <;> rcases m with _ | _ | _ | _ | _ | _ | _ | _ | m <;> rfl
theorem x_sortingOf (hT : T nx = none) (hc : kd T c = some 8) (hc0 : F c 0 = .ref (c + 1)) {ja : Nat} (hja : kd T ja = some 4) (h1 : F ja 1 = .int (nI wy)) (h2 : F ja 2 = .ref ca) (h3 : F ja 3 = .ref ba) (hca : kd T ca = some 1) (hs : F ca 1 = .int (nI n)) (hn : n ≤ 1000) (hwy : wy ≤ 4) (hg : wy = 3 → ∀ S, fX9_greatestGapBelow fu S (nI n) = some (nI g, S)) (hg0 : wy = 0 → g = 1) :
    ∃ gi, fX9_sortingOf fu (mkS T F nx) c (some ja) = some (some nx, mkS (tN T nx (Kw wy)) (oF F nx (gS c ca ba (Kw wy) gi)) (nx + 1)) ∧ nG (Kw wy) gi n (if n < 2 then 1 else 0) g := by
  have ne : ∀ {q k : Nat}, kd T q = some k → q ≠ nx := fun h e => by rw [e] at h; simp [kd, hT] at h
  have k1 : kd (tN T nx (Kw wy)) c = some 8 := tN_kd hT hc
  have k2 : kd (tN T nx (Kw wy)) ja = some 4 := tN_kd hT hja
  have k3 : kd (tN T nx (Kw wy)) ca = some 1 := tN_kd hT hca
  have k4 : kd (tN T nx (Kw wy)) nx = some (Kw wy) := tN_s
  have f1 : (fun q => if q = nx then hdf (Kw wy) else F q) = oF F nx (hdf (Kw wy)) := rfl
  have o1 : ∀ {q k : Nat}, kd T q = some k → ∀ g, oF F nx g q = F q := fun h g => by simp [oF, ne h]
  have i8 := x_init8 (fu := fu) (nx := nx + 1) (F := oF F nx (hdf (Kw wy))) (c := c) k4 (Kw_K wy) k3 (by rw [o1 hca]; exact hs) hn
  have nw : nO (mkS T F nx) (Kw wy) = mkS (tN T nx (Kw wy)) (oF F nx (hdf (Kw wy))) (nx + 1) := nO_mk hT
  have fin : ∀ (v4 : Option Value), True := fun _ => trivial
  have hcs : wy = 0 ∨ wy = 1 ∨ wy = 2 ∨ wy = 3 ∨ wy = 4 := by omega
  have ext : ∀ (A B : Nat → Nat → Value), (∀ q, q ≠ nx → A q = B q) → (∀ k, A nx k = B nx k) → A = B := fun A B h1 h2 => by
    funext q k
    by_cases e : q = nx
    · rw [e]; exact h2 k
    · rw [h1 q e]
  have un : ∀ (F : Nat → Nat → Value) (k : Nat) (v : Value) (q : Nat), q ≠ nx → u2 F nx k v q = F q := fun F k v q e => by funext k'; simp [u2, e]
  generalize ho : (if n < 2 then 1 else 0) = o at i8 ⊢
  have end23 : ∀ (K v : Nat), (K = 2 ∨ K = 3) → u2 (u2 (u2 (u2 (u2 (oF F nx (hdf K)) nx 0 (.ref (c + 1))) nx 1 (.ref ca)) nx 2 (.int (nI n))) nx 3 (.int (nI o))) nx 4 (.int (nI v)) = oF F nx (gS c ca ba K (ui (ui (ui (fun _ => 0) 2 (nI n)) 3 (nI o)) 4 (nI v))) := by
    intro K v hK
    refine ext _ _ (fun q e => ?_) (fun k => ?_)
    · simp only [un _ _ _ _ e, oF, e, if_false]
    · have h5 : ¬ (K = 5 ∨ K = 6) := by omega
      simp only [u2, oF, true_and, if_true, gS, h5, and_false, if_false, ui]
      by_cases a4 : k = 4
      · simp [a4]
      · by_cases a3 : k = 3
        · simp [a3]
        · by_cases a2 : k = 2
          · simp [a2]
          · by_cases a1 : k = 1
            · simp [a1]
            · by_cases a0 : k = 0
              · simp [a0]
              · simp only [a0, a1, a2, a3, a4, if_false]
                exact hdf_23 hK (by omega)
  have end3 : u2 (u2 (u2 (u2 (oF F nx (hdf 3)) nx 0 (.ref (c + 1))) nx 1 (.ref ca)) nx 2 (.int (nI n))) nx 3 (.int (nI o)) = oF F nx (gS c ca ba 3 (ui (ui (ui (fun _ => 0) 2 (nI n)) 3 (nI o)) 4 (nI 0))) := by
    rw [← end23 3 0 (Or.inr rfl)]
    refine ext _ _ (fun q e => ?_) (fun k => ?_)
    · simp only [un _ _ _ _ e]
    · by_cases a4 : k = 4
      · subst a4; simp [u2, oF]; rfl
      · simp [u2, a4]
  have end56 : ∀ (K : Nat), (K = 5 ∨ K = 6) → u2 (u2 (u2 (u2 (u2 (oF F nx (hdf K)) nx 0 (.ref (c + 1))) nx 1 (.ref ca)) nx 2 (.int (nI n))) nx 3 (.int (nI o))) nx 4 (.ref ba) = oF F nx (gS c ca ba K (ui (ui (fun _ => 0) 2 (nI n)) 3 (nI o))) := by
    intro K hK
    refine ext _ _ (fun q e => ?_) (fun k => ?_)
    · simp only [un _ _ _ _ e, oF, e, if_false]
    · simp only [u2, oF, true_and, if_true, gS, hK, and_true, if_false, ui]
      by_cases a4 : k = 4
      · simp [a4]
      · by_cases a3 : k = 3
        · simp [a3]
        · by_cases a2 : k = 2
          · simp [a2]
          · by_cases a1 : k = 1
            · simp [a1]
            · by_cases a0 : k = 0
              · simp [a0]
              · simp only [a0, a1, a2, a3, a4, if_false]
                exact hdf_56 hK (by omega)
  rcases hcs with rfl | rfl | rfl | rfl | rfl
  · obtain rfl := hg0 rfl
    refine ⟨ui (ui (ui (fun _ => 0) 2 (nI n)) 3 (nI o)) 4 (nI 1), ?_, ?_⟩
    · have hKw : Kw 0 = 2 := rfl
      rw [hKw] at nw i8 k1 k2 k3 k4 ⊢
      simp +decide only [fX9_sortingOf, gI_mk hja, h1, nw, gR_mk k1, gR_mk k2, gI_mk k3, o1 hc, o1 hja, o1 hca, hc0, h2, h3, hs, mkS_2, fX2_init, fX3_init, fX5_init, fX6_init, i8, pV_mk k4, show nI 0 = (0 : Int32) from rfl, va_rf, Option.bind_some, bn2_s, zz_0, zz_1, if_true, if_false, ite_true, ite_false, vI_i, vR_n, vR_r, vR_v, reduceCtorEq]
      rw [show (1 : Int32) = nI 1 from rfl, end23 2 1 (Or.inl rfl)]
    · simp +decide [nG, Kw, ui]
  · refine ⟨ui (ui (ui (fun _ => 0) 2 (nI n)) 3 (nI o)) 4 (nI 0), ?_, ?_⟩
    · have hKw : Kw 1 = 3 := rfl
      rw [hKw] at nw i8 k1 k2 k3 k4 ⊢
      simp +decide only [fX9_sortingOf, gI_mk hja, h1, nw, gR_mk k1, gR_mk k2, gI_mk k3, o1 hc, o1 hja, o1 hca, hc0, h2, h3, hs, mkS_2, fX2_init, fX3_init, fX5_init, fX6_init, i8, pV_mk k4, show nI 1 = (1 : Int32) from rfl, va_rf, Option.bind_some, bn2_s, zz_0, zz_1, if_true, if_false, ite_true, ite_false, vI_i, vR_n, vR_r, vR_v, reduceCtorEq]
      rw [end3]
    · simp +decide [nG, Kw, ui]
  · refine ⟨ui (ui (fun _ => 0) 2 (nI n)) 3 (nI o), ?_, ?_⟩
    · have hKw : Kw 2 = 5 := rfl
      rw [hKw] at nw i8 k1 k2 k3 k4 ⊢
      simp +decide only [fX9_sortingOf, gI_mk hja, h1, nw, gR_mk k1, gR_mk k2, gI_mk k3, o1 hc, o1 hja, o1 hca, hc0, h2, h3, hs, mkS_2, fX2_init, fX3_init, fX5_init, fX6_init, i8, pV_mk k4, show nI 2 = (2 : Int32) from rfl, va_rf, Option.bind_some, bn2_s, zz_0, zz_1, if_true, if_false, ite_true, ite_false, vI_i, vR_n, vR_r, vR_v, reduceCtorEq]
      rw [end56 5 (Or.inl rfl)]
    · simp +decide [nG, Kw, ui]
  · have hgg := hg rfl
    refine ⟨ui (ui (ui (fun _ => 0) 2 (nI n)) 3 (nI o)) 4 (nI g), ?_, ?_⟩
    · have hKw : Kw 3 = 2 := rfl
      rw [hKw] at nw i8 k1 k2 k3 k4 ⊢
      simp +decide only [fX9_sortingOf, gI_mk hja, h1, nw, gR_mk k1, gR_mk k2, gI_mk k3, o1 hc, o1 hja, o1 hca, hc0, h2, h3, hs, mkS_2, fX2_init, fX3_init, fX5_init, fX6_init, i8, pV_mk k4, show nI 3 = (3 : Int32) from rfl, hgg, va_rf, Option.bind_some, bn2_s, zz_0, zz_1, if_true, if_false, ite_true, ite_false, vI_i, vR_n, vR_r, vR_v, reduceCtorEq]
      rw [end23 2 g (Or.inl rfl)]
    · simp +decide [nG, Kw, ui]
  · refine ⟨ui (ui (fun _ => 0) 2 (nI n)) 3 (nI o), ?_, ?_⟩
    · have hKw : Kw 4 = 6 := rfl
      rw [hKw] at nw i8 k1 k2 k3 k4 ⊢
      simp +decide only [fX9_sortingOf, gI_mk hja, h1, nw, gR_mk k1, gR_mk k2, gI_mk k3, o1 hc, o1 hja, o1 hca, hc0, h2, h3, hs, mkS_2, fX2_init, fX3_init, fX5_init, fX6_init, i8, pV_mk k4, show nI 4 = (4 : Int32) from rfl, va_rf, Option.bind_some, bn2_s, zz_0, zz_1, if_true, if_false, ite_true, ite_false, vI_i, vR_n, vR_r, vR_v, reduceCtorEq]
      rw [end56 6 (Or.inr rfl)]
    · simp +decide [nG, Kw, ui]
end BH
