/-! HEAP on both sides -/
def hBt (x e : Nat) : Nat := if 2 * x + 2 < e then 1 else 0
/-- the state: words, root, end, node, child, compares children, over -/
abbrev hSta : Type := (Nat → Int32) × Nat × Nat × Nat × Nat × Nat × Nat
def hNx (w : Nat → Int32) (f root e : Nat) : hSta := if 0 < root then (w, root - 1, e, root - 1, 2 * (root - 1) + 1, hBt (root - 1) e, 0) else (sw w f (f + (e - 1)), 0, e - 1, 0, 1, hBt 0 (e - 1), if 1 < e - 1 then 0 else 1)
def hStp (w : Nat → Int32) (f root e node child b : Nat) : hSta :=
  if b = 1 then (w, root, e, node, (if w (f + (child + 1)) ≤ w (f + child) then child else child + 1), 0, 0)
  else if w (f + child) ≤ w (f + node) then hNx w f root e
  else if 2 * child + 1 < e then (sw w (f + node) (f + child), root, e, child, 2 * child + 1, hBt child e, 0)
  else hNx (sw w (f + node) (f + child)) f root e
def hIv (n root e node child b : Nat) : Prop := 2 ≤ e ∧ e ≤ n ∧ node < e ∧ child < e ∧ (b = 1 → child + 1 < e) ∧ (0 < root → e = n) ∧ 2 * root + 1 < n ∧ b ≤ 1 ∧ n ≤ 1000
theorem hBt_le (x e : Nat) : hBt x e ≤ 1 := by unfold hBt; split <;> omega
theorem hBt_1 {x e : Nat} (h : hBt x e = 1) : 2 * x + 2 < e := by unfold hBt at h; split at h <;> omega
theorem hNx_iv {w : Nat → Int32} {f n root e : Nat} (h1 : 2 ≤ e) (h2 : e ≤ n) (h3 : 0 < root → e = n) (h4 : 2 * root + 1 < n) (h5 : n ≤ 1000) : (hNx w f root e).2.2.2.2.2.2 = 0 → hIv n (hNx w f root e).2.1 (hNx w f root e).2.2.1 (hNx w f root e).2.2.2.1 (hNx w f root e).2.2.2.2.1 (hNx w f root e).2.2.2.2.2.1 := by
  unfold hNx
  split
  · rename_i c
    intro _
    have := h3 c
    refine ⟨h1, h2, ?_, ?_, ?_, ?_, ?_, hBt_le _ _, h5⟩
    · show root - 1 < e; omega
    · show 2 * (root - 1) + 1 < e; omega
    · intro hb; have := hBt_1 hb; show 2 * (root - 1) + 1 + 1 < e; omega
    · intro _; exact this
    · show 2 * (root - 1) + 1 < n; omega
  · rename_i c
    intro ho
    have : 1 < e - 1 := by
      simp only at ho
      split at ho <;> omega
    refine ⟨?_, ?_, ?_, ?_, ?_, ?_, ?_, hBt_le _ _, h5⟩
    · show 2 ≤ e - 1; omega
    · show e - 1 ≤ n; omega
    · show 0 < e - 1; omega
    · show 1 < e - 1; omega
    · intro hb; have := hBt_1 hb; show 1 + 1 < e - 1; omega
    · intro hz; exact absurd hz (Nat.lt_irrefl 0)
    · show 2 * 0 + 1 < n; omega
theorem hStp_iv {w : Nat → Int32} {f n root e node child b : Nat} (h : hIv n root e node child b) : (hStp w f root e node child b).2.2.2.2.2.2 = 0 → hIv n (hStp w f root e node child b).2.1 (hStp w f root e node child b).2.2.1 (hStp w f root e node child b).2.2.2.1 (hStp w f root e node child b).2.2.2.2.1 (hStp w f root e node child b).2.2.2.2.2.1 := by
  obtain ⟨h1, h2, h3, h4, h5, h6, h7, h8, h9⟩ := h
  unfold hStp
  split
  · rename_i c
    intro _
    have := h5 c
    refine ⟨h1, h2, h3, ?_, fun z => absurd z (show ¬ (0 : Nat) = 1 by decide), h6, h7, Nat.zero_le _, h9⟩
    show (if w (f + (child + 1)) ≤ w (f + child) then child else child + 1) < e
    split <;> omega
  · split
    · exact hNx_iv h1 h2 h6 h7 h9
    · split
      · rename_i c2
        intro _
        refine ⟨h1, h2, h4, c2, ?_, h6, h7, hBt_le _ _, h9⟩
        intro hb; have := hBt_1 hb; show 2 * child + 1 + 1 < e; omega
      · exact hNx_iv h1 h2 h6 h7 h9
def hEq (gi : Nat → Int32) (n root e node child b o : Nat) : Prop := gi 2 = nI n ∧ gi 3 = nI o ∧ gi 4 = nI root ∧ gi 5 = nI e ∧ gi 6 = nI node ∧ gi 7 = nI child ∧ gi 8 = nI b
section XH
variable {T : Nat → Option (Nat × Nat)} {F : Nat → Nat → Value} {nx c nW fu sa ca ba f n : Nat} {gi : Nat → Int32} {w : Nat → Int32}
theorem x_sink (h : xS T F c nW sa ca ba 3 f n) {root e x : Nat} {o : Nat} (g2 : gi 2 = nI n) (g3 : gi 3 = nI o) (g4 : gi 4 = nI root) (g5 : gi 5 = nI e) (he : e ≤ 1000) (hx : x ≤ 1000) : ∃ gi', fX3_sinkFrom fu (xs T F nx c sa ca ba 3 gi w) sa (nI x) = some ((), xs T F nx c sa ca ba 3 gi' w) ∧ hEq gi' n root e x (2 * x + 1) (hBt x e) o := by
  have d1 : (2 : Int32) * nI x = nI (2 * x) := pk_mul 2 x
  simp +decide only [fX3_sinkFrom, fX3_sinkFrom_33, gI_x h, pV_x h, g5, d1, nI_ad1, nI_ad2, ui_s, ui_n, Option.bind_some, bn2_s, zz_0, zz_1, if_true, if_false, ite_true, ite_false, vI_i, vR_n, vR_r, vR_v, reduceCtorEq, hBt]
  by_cases c1 : 2 * x + 2 < e
  · rw [if_neg (nI_ge (by omega) (by omega))]
    refine ⟨_, rfl, ?_⟩
    simp +decide only [hEq, ui_s, ui_n, g2, g3, g4, g5, c1, if_true, and_self]
  · rw [if_pos (nI_le (by omega) (by omega))]
    refine ⟨_, rfl, ?_⟩
    simp +decide only [hEq, ui_s, ui_n, g2, g3, g4, g5, c1, if_false, and_self]
theorem x_heapNext (h : xS T F c nW sa ca ba 3 f n) {root e : Nat} (g2 : gi 2 = nI n) (g3 : gi 3 = nI 0) (g4 : gi 4 = nI root) (g5 : gi 5 = nI e) (h1 : 2 ≤ e) (h2 : e ≤ n) (hr : root ≤ 1000) :
    ∃ gi', fX3_goOnWithNextSink fu (xs T F nx c sa ca ba 3 gi w) sa = some ((), xs T F nx c sa ca ba 3 gi' (hNx w f root e).1) ∧ hEq gi' n (hNx w f root e).2.1 (hNx w f root e).2.2.1 (hNx w f root e).2.2.2.1 (hNx w f root e).2.2.2.2.1 (hNx w f root e).2.2.2.2.2.1 (hNx w f root e).2.2.2.2.2.2 := by
  have hn := h.2.2.2.2.2.2.2.2.2.2.2.2
  unfold hNx
  by_cases c1 : 0 < root
  · simp only [c1, if_true]
    have c2 : ¬ nI root ≤ 0 := nI_nle c1 (by omega)
    have d1 : nI root - (1 : Int32) = nI (root - 1) := pk_sub (b := 1) (by omega)
    obtain ⟨gi', j1, j2⟩ := x_sink (fu := fu) (nx := nx) (gi := ui gi 4 (nI (root - 1))) (w := w) h (root := root - 1) (e := e) (x := root - 1) (o := 0) (by simp +decide only [ui_s, ui_n, g2]) (by simp +decide only [ui_s, ui_n, g3]) (by simp +decide only [ui_s, ui_n]) (by simp +decide only [ui_s, ui_n, g5]) (by omega) (by omega)
    refine ⟨gi', ?_, j2⟩
    simp +decide only [fX3_goOnWithNextSink, gI_x h, pV_x h, rcv_x h, g4, c2, d1, ui_s, j1, Option.bind_some, bn2_s, zz_0, zz_1, if_true, if_false, ite_true, ite_false, vI_i, vR_n, vR_r, vR_v, reduceCtorEq]
  · have r0 : root = 0 := by omega
    subst r0
    simp only [c1, if_false]
    have d1 : nI e - (1 : Int32) = nI (e - 1) := pk_sub (b := 1) (by omega)
    have s1 := x_swap8 (fu := fu) (nx := nx) (gi := ui gi 5 (nI (e - 1))) (w := w) h (i := 0) (k := e - 1) (by omega) (by omega)
    rw [Nat.add_zero] at s1
    obtain ⟨gi', j1, j2⟩ := x_sink (fu := fu) (nx := nx) (gi := ui gi 5 (nI (e - 1))) (w := sw w f (f + (e - 1))) h (root := 0) (e := e - 1) (x := 0) (o := 0) (by simp +decide only [ui_s, ui_n, g2]) (by simp +decide only [ui_s, ui_n, g3]) (by simp +decide only [ui_s, ui_n, g4]) (by simp +decide only [ui_s, ui_n]) (by omega) (by omega)
    have z0 : (0 : Int32) = nI 0 := rfl
    have c0 : nI 0 ≤ (0 : Int32) := by decide
    simp +decide only [fX3_goOnWithNextSink, fX3_goOnWithNextSink_64, gI_x h, pV_x h, rcv_x h, g4, g5, c0, d1, ui_s, Option.bind_some, bn2_s, zz_0, zz_1, if_true, if_false, ite_true, ite_false, vI_i, vR_n, vR_r, vR_v, reduceCtorEq]
    rw [z0, s1]
    simp +decide only [rcv_x h, Option.bind_some, bn2_s, zz_0, zz_1, if_true, if_false, ite_true, ite_false, vI_i, vR_n, vR_r, vR_v, reduceCtorEq]
    rw [j1]
    obtain ⟨k2, k3, k4, k5, k6, k7, k8⟩ := j2
    simp +decide only [gI_x h, pV_x h, k5, Option.bind_some, bn2_s, zz_0, zz_1, if_true, if_false, ite_true, ite_false, vI_i, vR_n, vR_r, vR_v, reduceCtorEq]
    by_cases c3 : 1 < e - 1
    · have c4 : (1 : Int32) < nI (e - 1) := nI_lt (a := 1) c3 (by omega)
      rw [if_pos c4]
      refine ⟨_, rfl, ?_⟩
      simp +decide only [hEq, ui_s, ui_n, k2, k3, k4, k5, k6, k7, k8, c3, if_true, and_self]
    · have c4 : ¬ (1 : Int32) < nI (e - 1) := nI_nlt (b := e - 1) (a := 1) (by omega) (by omega)
      rw [if_neg c4]
      refine ⟨_, rfl, ?_⟩
      simp +decide only [hEq, ui_s, ui_n, k2, k3, k4, k5, k6, k7, k8, c3, if_false, and_self]
theorem x_heapStep (h : xS T F c nW sa ca ba 3 f n) {root e node child b : Nat} (hg : hEq gi n root e node child b 0) (hv : hIv n root e node child b) :
    ∃ gi', fX3_compareNext fu (xs T F nx c sa ca ba 3 gi w) sa = some ((), xs T F nx c sa ca ba 3 gi' (hStp w f root e node child b).1) ∧ hEq gi' n (hStp w f root e node child b).2.1 (hStp w f root e node child b).2.2.1 (hStp w f root e node child b).2.2.2.1 (hStp w f root e node child b).2.2.2.2.1 (hStp w f root e node child b).2.2.2.2.2.1 (hStp w f root e node child b).2.2.2.2.2.2 := by
  obtain ⟨g2, g3, g4, g5, g6, g7, g8⟩ := hg
  obtain ⟨v1, v2, v3, v4, v5, v6, v7, v8, v9⟩ := hv
  unfold hStp
  have a1 := x_cell (fu := fu) (nx := nx) (gi := gi) (w := w) h (i := child) (by omega)
  by_cases c1 : b = 1
  · have v5' := v5 c1
    subst c1
    have a2 := x_cell (fu := fu) (nx := nx) (gi := gi) (w := w) h (i := child + 1) (by omega)
    simp +decide only [fX3_compareNext, fX3_compareNext_38, gI_x h, pV_x h, rcv_x h, g8, g7, nI_ad1, a1, a2, Option.bind_some, bn2_s, zz_0, zz_1, if_true, if_false, ite_true, ite_false, vI_i, vR_n, vR_r, vR_v, reduceCtorEq]
    by_cases c2 : w (f + (child + 1)) ≤ w (f + child)
    · simp only [c2, if_true]
      refine ⟨_, rfl, ?_⟩
      simp +decide only [hEq, ui_s, ui_n, g2, g3, g4, g5, g6, g7, and_self]
    · simp only [c2, if_false]
      refine ⟨_, rfl, ?_⟩
      simp +decide only [hEq, ui_s, ui_n, g2, g3, g4, g5, g6, g7, and_self]
  · have b0 : b = 0 := by omega
    subst b0
    have a3 := x_cell (fu := fu) (nx := nx) (gi := gi) (w := w) h (i := node) (by omega)
    have s1 := x_swap8 (fu := fu) (nx := nx) (gi := gi) (w := w) h (i := node) (k := child) (by omega) (by omega)
    simp +decide only [fX3_compareNext, gI_x h, rcv_x h, g8, g6, g7, a1, a3, Option.bind_some, bn2_s, zz_0, zz_1, if_true, if_false, ite_true, ite_false, vI_i, vR_n, vR_r, vR_v, reduceCtorEq]
    by_cases c2 : w (f + child) ≤ w (f + node)
    · simp only [c2, if_true]
      obtain ⟨gi', j1, j2⟩ := x_heapNext (fu := fu) (nx := nx) (w := w) h g2 g3 g4 g5 v1 v2 (by omega)
      refine ⟨gi', ?_, j2⟩
      simp +decide only [fX3_compareNext_68, fX3_compareNext_93, fX3_compareNext_108, rcv_x h, j1, Option.bind_some, bn2_s, zz_0, zz_1, if_true, if_false, ite_true, ite_false, vI_i, vR_n, vR_r, vR_v, reduceCtorEq]
    · simp only [c2, if_false]
      obtain ⟨gi1, i1, i2⟩ := x_sink (fu := fu) (nx := nx) (w := sw w (f + node) (f + child)) h (x := child) g2 g3 g4 g5 (by omega) (by omega)
      obtain ⟨k2, k3, k4, k5, k6, k7, k8⟩ := id i2
      by_cases c3 : 2 * child + 1 < e
      · simp only [c3, if_true]
        refine ⟨gi1, ?_, i2⟩
        simp +decide only [fX3_compareNext_68, fX3_compareNext_93, gI_x h, rcv_x h, g6, g7, s1, i1, k7, k5, Option.bind_some, bn2_s, zz_0, zz_1, if_true, if_false, ite_true, ite_false, vI_i, vR_n, vR_r, vR_v, reduceCtorEq]
        rw [if_pos (nI_lt c3 (by omega))]
      · simp only [c3, if_false]
        obtain ⟨gi', j1, j2⟩ := x_heapNext (fu := fu) (nx := nx) (w := sw w (f + node) (f + child)) h k2 k3 k4 k5 v1 v2 (by omega)
        refine ⟨gi', ?_, j2⟩
        simp +decide only [fX3_compareNext_68, fX3_compareNext_93, fX3_compareNext_108, gI_x h, rcv_x h, g6, g7, s1, i1, k7, k5, Option.bind_some, bn2_s, zz_0, zz_1, if_true, if_false, ite_true, ite_false, vI_i, vR_n, vR_r, vR_v, reduceCtorEq]
        rw [if_neg (nI_nlt (by omega) (by omega))]
        simp +decide only [rcv_x h, j1, Option.bind_some, bn2_s, zz_0, zz_1, if_true, if_false, ite_true, ite_false, vI_i, vR_n, vR_r, vR_v, reduceCtorEq]
end XH
def mhE (fi : Nat → Int32) (root e node child b : Nat) : Prop := fi 26 = nI root ∧ fi 27 = nI e ∧ fi 23 = nI e ∧ fi 22 = nI node ∧ fi 24 = nI child ∧ fi 25 = nI (1 - b)
section MH
variable {T : Nat → Option (Nat × Nat)} {G : Nat → Nat → Value} {nx z nW fu j f n : Nat} {fi : Nat → Int32} {ar : Nat → Nat → Int32} {w : Nat → Int32}
theorem m_stands (h : mS T z nW fi ar j f n) {x e : Nat} (e1 : fi 22 = nI x) (e2 : fi 23 = nI e) (hx : x ≤ 1000) (he : e ≤ 1000) : ∃ fi', fX10_heapStands fu (mw T G nx z fi ar) z = some (if 2 * x + 1 < e then 1 else 0, mw T G nx z fi' ar) ∧ fEq fi fi' ∧ fi' 22 = nI x ∧ fi' 23 = nI e ∧ fi' 24 = nI (2 * x + 1) ∧ fi' 25 = nI (1 - hBt x e) ∧ fi' 26 = fi 26 ∧ fi' 27 = fi 27 := by
  obtain ⟨hT, h1, h2, h3, h4, h5, h6⟩ := h
  have d1 : (2 : Int32) * nI x = nI (2 * x) := pk_mul 2 x
  simp +decide only [fX10_heapStands, fX10_heapStands_31, Option.bind_some, bn2_s, zz_0, zz_1, if_true, if_false, ite_true, ite_false, vI_i, vR_n, vR_r, vR_v, reduceCtorEq, gI_m hT, gR_m hT, rcv_m hT, pV_m hT, aI_24 hT, sV_24 hT, aI_3 hT, sV_3 hT, aI_18 hT, sV_18 hT, aI_19 hT, sV_19 hT, aI_mZ hT, sV_mZ hT, ui_s, ui_n, ua_s, ua_k, e1, e2, d1, nI_ad1, hBt]
  by_cases c1 : 2 * x + 2 < e
  · have c2 : 2 * x + 1 < e := by omega
    rw [if_neg (nI_ge (by omega) (by omega)), if_neg (nI_ge (by omega) (by omega))]
    simp only [c1, c2, if_true]
    refine ⟨_, rfl, ((fEq.rf fi).ui _ (by omega)).ui _ (by omega), ?_⟩
    simp +decide only [ui_s, ui_n, e1, e2, and_self]
  · rw [if_pos (nI_le (by omega) (by omega))]
    simp only [c1, if_false]
    by_cases c2 : 2 * x + 1 < e
    · rw [if_neg (nI_ge (by omega) (by omega))]
      simp only [c2, if_true]
      refine ⟨_, rfl, ((fEq.rf fi).ui _ (by omega)).ui _ (by omega), ?_⟩
      simp +decide only [ui_s, ui_n, e1, e2, and_self]
    · rw [if_pos (nI_le (by omega) (by omega))]
      simp only [c2, if_false]
      refine ⟨_, rfl, ((fEq.rf fi).ui _ (by omega)).ui _ (by omega), ?_⟩
      simp +decide only [ui_s, ui_n, e1, e2, and_self]
theorem m_heapNext (h : mS T z nW fi ar j f n) {root e : Nat} (e1 : fi 26 = nI root) (e2 : fi 27 = nI e) (h1 : 2 ≤ e) (h2 : e ≤ n) (h3 : 0 < root → e = n) (h4 : 2 * root + 1 < n + 2) (hr : root ≤ 500) (hr2 : 0 < root → 2 * (root - 1) + 1 < n) (m : Nat) :
    ∃ fi', fX10_heapNext_0 fu (m + 2) (mw T G nx z fi (aw ar w)) z = some (nI (1 - (hNx w f root e).2.2.2.2.2.2), mw T G nx z fi' (aw ar (hNx w f root e).1)) ∧ fEq fi fi' ∧ ((hNx w f root e).2.2.2.2.2.2 = 0 → mhE fi' (hNx w f root e).2.1 (hNx w f root e).2.2.1 (hNx w f root e).2.2.2.1 (hNx w f root e).2.2.2.2.1 (hNx w f root e).2.2.2.2.2.1) := by
  have h' := h
  obtain ⟨hT, k1, k2, k3, k4, k5, k6⟩ := h
  have mk : ∀ w', mS T z nW fi (aw ar w') j f n := fun w' => ⟨hT, k1, k2, by rw [aw_n _ _ (by decide)]; exact k3, k4, k5, k6⟩
  unfold hNx
  rw [fX10_heapNext_0]
  by_cases c1 : 0 < root
  · simp only [c1, if_true]
    have en := h3 c1
    have c2 : ¬ nI root ≤ 0 := nI_nle c1 (by omega)
    have d1 : nI root - (1 : Int32) = nI (root - 1) := pk_sub (b := 1) (by omega)
    obtain ⟨fi', j1, j2, j3, j4, j5, j6, j7, j8⟩ := m_stands (fu := fu) (G := G) (nx := nx) ((mk w).fx ((((fEq.rf fi).ui (nI (root - 1)) (k := 26) (by omega)).ui (nI (root - 1)) (k := 22) (by omega)).ui (nI n) (k := 23) (by omega))) (x := root - 1) (e := n) (by simp +decide only [ui_s, ui_n]) (by simp +decide only [ui_s, ui_n]) (by omega) (by omega)
    refine ⟨fi', ?_, fun k hk => by rw [j2 k hk, ui_n _ _ (by omega), ui_n _ _ (by omega), ui_n _ _ (by omega)], fun _ => ⟨?_, ?_, ?_, j3, j5, ?_⟩⟩
    · simp +decide only [Option.bind_some, bn2_s, zz_0, zz_1, if_true, if_false, ite_true, ite_false, vI_i, vR_n, vR_r, vR_v, reduceCtorEq, gI_m hT, gR_m hT, rcv_m hT, pV_m hT, aI_24 hT, sV_24 hT, aI_3 hT, sV_3 hT, aI_18 hT, sV_18 hT, aI_19 hT, sV_19 hT, aI_mZ hT, sV_mZ hT, ui_s, ui_n, ua_s, ua_k, e1, c2, d1, k5, fX10_heapNext_78]
      rw [j1, if_pos (hr2 c1)]
      simp +decide only [Option.bind_some, bn2_s, zz_0, zz_1, if_true, if_false, ite_true, ite_false, vI_i, vR_n, vR_r, vR_v, reduceCtorEq]
      rfl
    · rw [j7]; simp +decide only [ui_s, ui_n]
    · rw [j8]; simp +decide only [ui_s, ui_n, e2, en]
    · rw [j4, en]
    · rw [j6, en]
  · have r0 : root = 0 := by omega
    subst r0
    simp only [c1, if_false]
    have d1 : nI e - (1 : Int32) = nI (e - 1) := pk_sub (b := 1) (by omega)
    have c0 : nI 0 ≤ (0 : Int32) := by decide
    have c2 : (1 : Int32) ≤ nI (e - 1) := nI_le (a := 1) (by omega) (by omega)
    have s1 := m_change (fu := fu) (G := G) (nx := nx) (w := w) ((h').fx ((fEq.rf fi).ui (nI (e - 1)) (k := 27) (by omega))) (i := 0) (k := e - 1) (by omega) (by omega)
    rw [Nat.add_zero, show nI 0 = (0 : Int32) from rfl] at s1
    obtain ⟨fi', j1, j2, j3, j4, j5, j6, j7, j8⟩ := m_stands (fu := fu) (G := G) (nx := nx) ((mk (sw w f (f + (e - 1)))).fx ((((fEq.rf fi).ui (nI (e - 1)) (k := 27) (by omega)).ui 0 (k := 22) (by omega)).ui (nI (e - 1)) (k := 23) (by omega))) (x := 0) (e := e - 1) (by simp +decide only [ui_s, ui_n]) (by simp +decide only [ui_s, ui_n]) (by omega) (by omega)
    have j7' : fi' 26 = nI 0 := by rw [j7]; simp +decide only [ui_s, ui_n, e1]
    have j8' : fi' 27 = nI (e - 1) := by rw [j8]; simp +decide only [ui_s, ui_n]
    have hfe : fEq fi fi' := fun k hk => by rw [j2 k hk, ui_n _ _ (by omega), ui_n _ _ (by omega), ui_n _ _ (by omega)]
    by_cases c3 : 1 < e - 1
    · refine ⟨fi', ?_, hfe, fun _ => ⟨j7', j8', j4, j3, j5, j6⟩⟩
      simp +decide only [Option.bind_some, bn2_s, zz_0, zz_1, if_true, if_false, ite_true, ite_false, vI_i, vR_n, vR_r, vR_v, reduceCtorEq, gI_m hT, gR_m hT, rcv_m hT, pV_m hT, aI_24 hT, sV_24 hT, aI_3 hT, sV_3 hT, aI_18 hT, sV_18 hT, aI_19 hT, sV_19 hT, aI_mZ hT, sV_mZ hT, ui_s, ui_n, ua_s, ua_k, e1, e2, c0, c2, d1, s1, fX10_heapNext_78]
      rw [j1, if_pos (by omega)]
      simp +decide only [Option.bind_some, bn2_s, zz_0, zz_1, if_true, if_false, ite_true, ite_false, vI_i, vR_n, vR_r, vR_v, reduceCtorEq, c3]
      rfl
    · have e2' : e - 1 = 1 := by omega
      refine ⟨ui fi' 27 (nI 0), ?_, hfe.ui _ (by omega), fun ho => ?_⟩
      · simp +decide only [Option.bind_some, bn2_s, zz_0, zz_1, if_true, if_false, ite_true, ite_false, vI_i, vR_n, vR_r, vR_v, reduceCtorEq, gI_m hT, gR_m hT, rcv_m hT, pV_m hT, aI_24 hT, sV_24 hT, aI_3 hT, sV_3 hT, aI_18 hT, sV_18 hT, aI_19 hT, sV_19 hT, aI_mZ hT, sV_mZ hT, ui_s, ui_n, ua_s, ua_k, e1, e2, c0, c2, d1, s1, fX10_heapNext_78]
        rw [j1, if_neg (by omega)]
        have d2 : nI (e - 1) - (1 : Int32) = nI 0 := by rw [e2']; rfl
        have c5 : ¬ (1 : Int32) ≤ nI 0 := by decide
        simp +decide only [Option.bind_some, bn2_s, zz_0, zz_1, if_true, if_false, ite_true, ite_false, vI_i, vR_n, vR_r, vR_v, reduceCtorEq, c3]
        rw [fX10_heapNext_0]
        simp +decide only [Option.bind_some, bn2_s, zz_0, zz_1, if_true, if_false, ite_true, ite_false, vI_i, vR_n, vR_r, vR_v, reduceCtorEq, gI_m hT, gR_m hT, rcv_m hT, pV_m hT, aI_24 hT, sV_24 hT, aI_3 hT, sV_3 hT, aI_18 hT, sV_18 hT, aI_19 hT, sV_19 hT, aI_mZ hT, sV_mZ hT, ui_s, ui_n, ua_s, ua_k, j7', j8', c0, d2, c5]
        rfl
      · simp only [c3, if_false] at ho
        cases ho
theorem m_heapStep (h : mS T z nW fi ar j f n) (hw : ar 6 j = 1) {root e node child b : Nat} (hm : mhE fi root e node child b) (hv : hIv n root e node child b) (hfu : 3 ≤ fu) :
    ∃ fi', fX10_goesOn fu (mw T G nx z fi (aw ar w)) z = some (nI (1 - (hStp w f root e node child b).2.2.2.2.2.2), mw T G nx z fi' (aw ar (hStp w f root e node child b).1)) ∧ fEq fi fi' ∧ ((hStp w f root e node child b).2.2.2.2.2.2 = 0 → mhE fi' (hStp w f root e node child b).2.1 (hStp w f root e node child b).2.2.1 (hStp w f root e node child b).2.2.2.1 (hStp w f root e node child b).2.2.2.2.1 (hStp w f root e node child b).2.2.2.2.2.1) := by
  have h' := h
  obtain ⟨hT, k1, k2, k3, k4, k5, k6⟩ := h
  obtain ⟨q1, q2, q3, q4, q5, q6⟩ := hm
  obtain ⟨v1, v2, v3, v4, v5, v6, v7, v8, v9⟩ := hv
  obtain ⟨fu', rfl⟩ : ∃ fu', fu = fu' + 2 := ⟨fu - 2, by omega⟩
  have mk : ∀ w', mS T z nW fi (aw ar w') j f n := fun w' => ⟨hT, k1, k2, by rw [aw_n _ _ (by decide)]; exact k3, k4, k5, k6⟩
  have b01 : ∀ o : Nat, o ≤ 1 → zz (nI (1 - o)) = some (nI (1 - o)) := fun o ho => by
    have : o = 0 ∨ o = 1 := by omega
    rcases this with rfl | rfl <;> rfl
  have ho : ∀ w', (hNx w' f root e).2.2.2.2.2.2 ≤ 1 := fun w' => by
    unfold hNx
    split
    · exact Nat.zero_le _
    · show (if 1 < e - 1 then 0 else 1) ≤ 1
      split <;> omega
  have a1 := m_at2 (fu := fu' + 2) (G := G) (nx := nx) (w := w) h' (i := child) (by omega)
  have hw6 : aw ar w 6 j = 1 := by rw [aw_n _ _ (by decide)]; exact hw
  unfold hStp
  by_cases c1 : b = 1
  · have v5' := v5 c1
    subst c1
    have a2 := m_at2 (fu := fu' + 2) (G := G) (nx := nx) (w := w) h' (i := child + 1) (by omega)
    simp +decide only [fX10_goesOn, fX10_heapGoes, fX10_heapGoes_38, Option.bind_some, bn2_s, zz_0, zz_1, if_true, if_false, ite_true, ite_false, vI_i, vR_n, vR_r, vR_v, reduceCtorEq, gI_m hT, gR_m hT, rcv_m hT, pV_m hT, aI_24 hT, sV_24 hT, aI_3 hT, sV_3 hT, aI_18 hT, sV_18 hT, aI_19 hT, sV_19 hT, aI_mZ hT, sV_mZ hT, ui_s, ui_n, ua_s, ua_k, k1, k2, hw6, q6, q5, nI_ad1, a1, a2]
    by_cases c2 : w (f + (child + 1)) ≤ w (f + child)
    · simp +decide only [c2, if_true, Option.bind_some, bn2_s, zz_0, zz_1, if_true, if_false, ite_true, ite_false, vI_i, vR_n, vR_r, vR_v, reduceCtorEq, gI_m hT, gR_m hT, rcv_m hT, pV_m hT, aI_24 hT, sV_24 hT, aI_3 hT, sV_3 hT, aI_18 hT, sV_18 hT, aI_19 hT, sV_19 hT, aI_mZ hT, sV_mZ hT, ui_s, ui_n, ua_s, ua_k]
      refine ⟨_, rfl, (fEq.rf fi).ui _ (by omega), fun _ => ?_⟩
      simp +decide only [mhE, ui_s, ui_n, q1, q2, q3, q4, q5, and_self]
    · simp +decide only [c2, if_false, Option.bind_some, bn2_s, zz_0, zz_1, if_true, if_false, ite_true, ite_false, vI_i, vR_n, vR_r, vR_v, reduceCtorEq, gI_m hT, gR_m hT, rcv_m hT, pV_m hT, aI_24 hT, sV_24 hT, aI_3 hT, sV_3 hT, aI_18 hT, sV_18 hT, aI_19 hT, sV_19 hT, aI_mZ hT, sV_mZ hT, ui_s, ui_n, ua_s, ua_k]
      refine ⟨_, rfl, ((fEq.rf fi).ui _ (by omega)).ui _ (by omega), fun _ => ?_⟩
      simp +decide only [mhE, ui_s, ui_n, q1, q2, q3, q4, q5, and_self]
  · have b0 : b = 0 := by omega
    subst b0
    have a3 := m_at2 (fu := fu' + 2) (G := G) (nx := nx) (w := w) h' (i := node) (by omega)
    have s1 := m_change (fu := fu' + 2) (G := G) (nx := nx) (w := w) h' (i := node) (k := child) (by omega) (by omega)
    simp +decide only [fX10_goesOn, fX10_heapGoes, Option.bind_some, bn2_s, zz_0, zz_1, if_true, if_false, ite_true, ite_false, vI_i, vR_n, vR_r, vR_v, reduceCtorEq, gI_m hT, gR_m hT, rcv_m hT, pV_m hT, aI_24 hT, sV_24 hT, aI_3 hT, sV_3 hT, aI_18 hT, sV_18 hT, aI_19 hT, sV_19 hT, aI_mZ hT, sV_mZ hT, ui_s, ui_n, ua_s, ua_k, k1, k2, hw6, q6, q5, q4, a1, a3]
    by_cases c2 : w (f + child) ≤ w (f + node)
    · simp +decide only [c2, if_true]
      obtain ⟨fi', j1, j2, j3⟩ := m_heapNext (fu := fu' + 2) (G := G) (nx := nx) (w := w) h' q1 q2 v1 v2 v6 (by omega) (by omega) (fun _ => by omega) fu'
      refine ⟨fi', ?_, j2, j3⟩
      simp +decide only [fX10_heapGoes_93, fX10_heapNext, rcv_m hT, j1, b01 _ (ho _), Option.bind_some, bn2_s, zz_0, zz_1, if_true, if_false, ite_true, ite_false, vI_i, vR_n, vR_r, vR_v, reduceCtorEq]
    · simp +decide only [c2, if_false]
      obtain ⟨fi1, i1, i2, i3, i4, i5, i6, i7, i8⟩ := m_stands (fu := fu' + 2) (G := G) (nx := nx) ((mk (sw w (f + node) (f + child))).fx ((fEq.rf fi).ui (nI child) (k := 22) (by omega))) (x := child) (e := e) (by simp +decide only [ui_s, ui_n]) (by simp +decide only [ui_s, ui_n, q3]) (by omega) (by omega)
      have i2' : fEq fi fi1 := fun k hk => by rw [i2 k hk, ui_n _ _ (by omega)]
      have i7' : fi1 26 = nI root := by rw [i7]; simp +decide only [ui_s, ui_n, q1]
      have i8' : fi1 27 = nI e := by rw [i8]; simp +decide only [ui_s, ui_n, q2]
      by_cases c3 : 2 * child + 1 < e
      · simp only [c3, if_true]
        refine ⟨fi1, ?_, i2', fun _ => ⟨i7', i8', i4, i3, i5, i6⟩⟩
        simp +decide only [Option.bind_some, bn2_s, zz_0, zz_1, if_true, if_false, ite_true, ite_false, vI_i, vR_n, vR_r, vR_v, reduceCtorEq, gI_m hT, gR_m hT, rcv_m hT, pV_m hT, aI_24 hT, sV_24 hT, aI_3 hT, sV_3 hT, aI_18 hT, sV_18 hT, aI_19 hT, sV_19 hT, aI_mZ hT, sV_mZ hT, ui_s, ui_n, ua_s, ua_k, q4, q5, s1]
        rw [i1, if_pos c3]
        simp +decide only [Option.bind_some, bn2_s, zz_0, zz_1, if_true, if_false, ite_true, ite_false, vI_i, vR_n, vR_r, vR_v, reduceCtorEq]
        rfl
      · simp only [c3, if_false]
        obtain ⟨fi', j1, j2, j3⟩ := m_heapNext (fu := fu' + 2) (G := G) (nx := nx) (w := sw w (f + node) (f + child)) (h'.fx i2') i7' i8' v1 v2 v6 (by omega) (by omega) (fun _ => by omega) fu'
        refine ⟨fi', ?_, fun k hk => by rw [j2 k hk, i2' k hk], j3⟩
        simp +decide only [Option.bind_some, bn2_s, zz_0, zz_1, if_true, if_false, ite_true, ite_false, vI_i, vR_n, vR_r, vR_v, reduceCtorEq, gI_m hT, gR_m hT, rcv_m hT, pV_m hT, aI_24 hT, sV_24 hT, aI_3 hT, sV_3 hT, aI_18 hT, sV_18 hT, aI_19 hT, sV_19 hT, aI_mZ hT, sV_mZ hT, ui_s, ui_n, ua_s, ua_k, q4, q5, s1]
        rw [i1, if_neg c3]
        simp +decide only [fX10_heapGoes_93, fX10_heapNext, rcv_m hT, j1, b01 _ (ho _), Option.bind_some, bn2_s, zz_0, zz_1, if_true, if_false, ite_true, ite_false, vI_i, vR_n, vR_r, vR_v, reduceCtorEq]
end MH
