/-! the reference's blocks: the list of taken blocks by codes (j: the cells of job j; 100 + j: its buffer) -/
def bsz (ar : Nat → Nat → Int32) (j : Nat) : Int32 := if ar 6 j = 2 then ar 5 j else if ar 6 j = 4 then 24 else 0
def bOf (ar : Nat → Nat → Int32) (q : Nat) : Int32 := if q < 100 then ar 9 q else ar 10 (q - 100)
def zOf (ar : Nat → Nat → Int32) (q : Nat) : Int32 := if q < 100 then ar 5 q else bsz ar (q - 100)
def jb (q : Nat) : Nat := if q < 100 then q else q - 100
def cod (q : Nat) : Prop := q < 24 ∨ (100 ≤ q ∧ q < 124)
def mB (ar : Nat → Nat → Int32) (nW : Nat) (bl : bL) : Prop := (∀ x ∈ bl, cod x.1 ∧ ar 4 (jb x.1) ≠ 0 ∧ bOf ar x.1 = nI x.2.1 ∧ zOf ar x.1 = nI x.2.2 ∧ x.2.1 + x.2.2 ≤ nW ∧ 0 < x.2.2) ∧ (∀ q, cod q → ar 4 (jb q) ≠ 0 → bOf ar q = -1 ∨ ∃ f s, (q, f, s) ∈ bl)
theorem neg1_lt {a : Nat} (h : a < 2 ^ 31) : (-1 : Int32) < nI a := by
  rw [Int32.lt_iff_toInt_lt, nI_toInt h]
  show (-1 : Int) < a
  omega
theorem nI_n1 {a : Nat} (h : a < 2 ^ 31) : ¬ nI a = (-1 : Int32) := fun z => by
  have := neg1_lt h
  rw [z] at this
  exact absurd this (by decide)
theorem cod_jb {q : Nat} (h : cod q) : jb q < 24 := by
  unfold cod at h; unfold jb; split <;> omega
theorem cod_lt {q : Nat} (h : cod q) : q < 124 := by unfold cod at h; omega
def Pn (bl : bL) (nW a b : Nat) (D : Nat → Prop) (best : Int32) : Prop := (best = -1 ∧ b = nW ∧ ∀ x ∈ bl, D x.1 → x.2.1 < a) ∨ (∃ x ∈ bl, a ≤ x.2.1 ∧ best = nI x.1 ∧ b = x.2.1 ∧ ∀ y ∈ bl, D y.1 → a ≤ y.2.1 → x.2.1 ≤ y.2.1)
theorem Pn.congr {bl : bL} {nW a b : Nat} {D D' : Nat → Prop} {best : Int32} (h : Pn bl nW a b D best) (hD : ∀ x ∈ bl, D' x.1 → D x.1) : Pn bl nW a b D' best := by
  rcases h with ⟨h1, h2, h3⟩ | ⟨x, h1, h2, h3, h4, h5⟩
  · exact Or.inl ⟨h1, h2, fun x hx hd => h3 x hx (hD x hx hd)⟩
  · exact Or.inr ⟨x, h1, h2, h3, h4, fun y hy hd => h5 y hy (hD y hy hd)⟩
theorem Pn.le {ar : Nat → Nat → Int32} {bl : bL} {nW a b : Nat} {D : Nat → Prop} {best : Int32} (hB : mB ar nW bl) (h : Pn bl nW a b D best) : b ≤ nW := by
  rcases h with ⟨h1, h2, h3⟩ | ⟨x, h1, h2, h3, h4, h5⟩
  · omega
  · have := hB.1 x h1; omega
theorem Pn_step {ar : Nat → Nat → Int32} {bl : bL} {nW a b q : Nat} {D : Nat → Prop} {best : Int32} (hW : nW ≤ 3000) (ha : a ≤ 3000) (hB : mB ar nW bl) (hq : cod q) (hs : ar 4 (jb q) ≠ 0) (hP : Pn bl nW a b D best) :
    ((bOf ar q < nI a ∨ nI b ≤ bOf ar q) → Pn bl nW a b (fun x => D x ∨ x = q) best) ∧ (¬ bOf ar q < nI a → ¬ nI b ≤ bOf ar q → ∃ f, bOf ar q = nI f ∧ Pn bl nW a f (fun x => D x ∨ x = q) (nI q)) := by
  have hbW := hP.le hB
  have huniq : ∀ y ∈ bl, y.1 = q → bOf ar q = nI y.2.1 := fun y hy e => by rw [← e]; exact (hB.1 y hy).2.2.1
  constructor
  · intro hv
    rcases hP with ⟨h1, h2, h3⟩ | ⟨x, h1, h2, h3, h4, h5⟩
    · refine Or.inl ⟨h1, h2, fun y hy hd => ?_⟩
      rcases hd with hd | hd
      · exact h3 y hy hd
      · have e := huniq y hy hd
        have hy2 := hB.1 y hy
        rw [e] at hv
        rcases hv with hv | hv
        · exact (nI_ltI (by omega) (by omega)).mp hv
        · have := (nI_leI (by omega) (by omega)).mp hv
          omega
    · refine Or.inr ⟨x, h1, h2, h3, h4, fun y hy hd ha2 => ?_⟩
      rcases hd with hd | hd
      · exact h5 y hy hd ha2
      · have e := huniq y hy hd
        have hy2 := hB.1 y hy
        rw [e] at hv
        rcases hv with hv | hv
        · have := (nI_ltI (by omega) (by omega)).mp hv
          omega
        · have := (nI_leI (by omega) (by omega)).mp hv
          omega
  · intro hv1 hv2
    rcases hB.2 q hq hs with h0 | ⟨f, s, hm⟩
    · rw [h0] at hv1
      exact absurd (neg1_lt (by omega)) hv1
    · have e := huniq _ hm rfl
      have hy2 := hB.1 _ hm
      simp only at e hy2
      refine ⟨f, e, Or.inr ⟨(q, f, s), hm, ?_, rfl, rfl, ?_⟩⟩
      · rw [e] at hv1
        exact Nat.not_lt.mp (fun z => hv1 (nI_lt z (by omega)))
      · intro y hy hd ha2
        have hbf : f < b := by
          rw [e] at hv2
          exact Nat.not_le.mp (fun z => hv2 (nI_le z (by omega)))
        rcases hd with hd | hd
        · rcases hP with ⟨h1, h2, h3⟩ | ⟨x, h1, h2, h3, h4, h5⟩
          · have := h3 y hy hd; omega
          · have := h5 y hy hd ha2
            show f ≤ y.2.1
            omega
        · have e2 := huniq y hy hd
          have hy3 := hB.1 y hy
          have := (nI_eq (by omega) (by omega)).mp (e.symm.trans e2)
          show f ≤ y.2.1
          omega
section MN
variable {T : Nat → Option (Nat × Nat)} {G : Nat → Nat → Value} {nx z nW fu : Nat} {fi : Nat → Int32} {ar : Nat → Nat → Int32}
theorem jb_j (j : Nat) (h : j < 24) : jb j = j := by unfold jb; split <;> omega
theorem jb_1 (j : Nat) : jb (100 + j) = j := by unfold jb; split <;> omega
theorem m_nf_loop (hT : mT T z nW) {bl : bL} (hB : mB ar nW bl) {a : Nat} (ha : a ≤ 3000) : ∀ (m j b : Nat) (best : Int32), j ≤ 24 → 24 - j < m → Pn bl nW a b (fun q => jb q < j) best →
    ∃ best' b', fX10_nextFrom_10 fu m (mw T G nx z fi ar) z (nI a) best (nI b) (nI j) = some (best', mw T G nx z fi ar) ∧ Pn bl nW a b' (fun q => jb q < 24) best' := by
  have hW := hT.2.1
  intro m
  induction m with
  | zero => intro j b best h1 h2; omega
  | succ m ih =>
    intro j b best hj hm hP
    rw [fX10_nextFrom_10]
    by_cases e : j = 24
    · subst e
      rw [if_pos (by decide)]
      exact ⟨best, b, rfl, hP⟩
    · have hj2 : j < 24 := by omega
      have h24 : ¬ (24 : Int32) ≤ nI j := nI_ge (b := 24) hj2 (by omega)
      rw [if_neg h24]
      simp only [rcv_m hT, m_has hT hj2, Option.bind_some, bn2_s, zz_0, zz_1, if_true, if_false, ite_true, ite_false, vI_i, vR_n, vR_r, vR_v, reduceCtorEq]
      have key : ∀ b best, Pn bl nW a b (fun q => jb q < j + 1) best → ∃ best' b', fX10_nextFrom_98 fu (fX10_nextFrom_10 fu m) (mw T G nx z fi ar) z (nI a) best (nI b) (nI j) = some (best', mw T G nx z fi ar) ∧ Pn bl nW a b' (fun q => jb q < 24) best' := by
        intro b best hp
        simp only [fX10_nextFrom_98, nI_ad1]
        exact ih (j + 1) b best (by omega) (by omega) hp
      by_cases c0 : ar 4 j = 0
      · rw [if_pos (by rw [if_pos c0])]
        exact key b best (hP.congr (fun x hx hd => by
          have h1 := (hB.1 x hx).2.1
          have : jb x.1 ≠ j := fun z => h1 (by rw [z]; exact c0)
          omega))
      · rw [if_neg (by rw [if_neg c0]; decide)]
        have hq1 : cod j := Or.inl hj2
        have hq2 : cod (100 + j) := Or.inr ⟨by omega, by omega⟩
        have v1 : bOf ar j = ar 9 j := by unfold bOf; rw [if_pos (by omega)]
        have v2 : bOf ar (100 + j) = ar 10 j := by unfold bOf; rw [if_neg (by omega), Nat.add_sub_cancel_left]
        have s1 : ar 4 (jb j) ≠ 0 := by rw [jb_j j hj2]; exact c0
        have s2 : ar 4 (jb (100 + j)) ≠ 0 := by rw [jb_1]; exact c0
        have hnum : (100 : Int32) + nI j = nI (100 + j) := nI_add 100 j
        have key2 : ∀ b best, Pn bl nW a b (fun q => jb q < j ∨ q = j) best → ∃ best' b', fX10_nextFrom_62 fu (fX10_nextFrom_10 fu m) (mw T G nx z fi ar) z (nI a) best (nI b) (nI j) = some (best', mw T G nx z fi ar) ∧ Pn bl nW a b' (fun q => jb q < 24) best' := by
          intro b best hp
          have fin : ∀ {b best}, Pn bl nW a b (fun x => (jb x < j ∨ x = j) ∨ x = 100 + j) best → Pn bl nW a b (fun q => jb q < j + 1) best := fun hz => hz.congr (fun x hx hd => by
            have := (hB.1 x hx).1
            unfold cod at this
            by_cases c9 : x.1 < 100
            · simp only [jb, c9, if_true] at hd ⊢; omega
            · simp only [jb, c9, if_false] at hd ⊢; omega)
          have st := Pn_step hW ha hB hq2 s2 hp
          rw [v2] at st
          simp +decide only [fX10_nextFrom_62, gR_m hT, aI_24 hT, hj2, hnum, Option.bind_some, bn2_s, zz_0, zz_1, if_true, if_false, ite_true, ite_false, vI_i, vR_n, vR_r, vR_v, reduceCtorEq]
          by_cases c1 : ar 10 j < nI a
          · rw [if_pos c1]
            exact key _ _ (fin (st.1 (Or.inl c1)))
          · rw [if_neg c1]
            by_cases c2 : nI b ≤ ar 10 j
            · rw [if_pos c2]
              exact key _ _ (fin (st.1 (Or.inr c2)))
            · rw [if_neg c2]
              obtain ⟨f, ef, hp2⟩ := st.2 c1 c2
              rw [ef]
              exact key _ _ (fin hp2)
        have st := Pn_step hW ha hB hq1 s1 hP
        rw [v1] at st
        simp +decide only [gR_m hT, aI_24 hT, hj2, Option.bind_some, bn2_s, zz_0, zz_1, if_true, if_false, ite_true, ite_false, vI_i, vR_n, vR_r, vR_v, reduceCtorEq]
        by_cases c1 : ar 9 j < nI a
        · rw [if_pos c1]
          exact key2 _ _ (st.1 (Or.inl c1))
        · rw [if_neg c1]
          by_cases c2 : nI b ≤ ar 9 j
          · rw [if_pos c2]
            exact key2 _ _ (st.1 (Or.inr c2))
          · rw [if_neg c2]
            obtain ⟨f, ef, hp2⟩ := st.2 c1 c2
            rw [ef]
            exact key2 _ _ hp2
theorem srt_first {nW : Nat} : ∀ {l : bL} {e : Nat}, srt nW e l → ∀ x ∈ l, ∀ y ∈ l, x.2.1 = y.2.1 → x = y
  | [], _, _, x, hx, _, _, _ => by cases hx
  | (b, f, s) :: r, e, h, x, hx, y, hy, he => by
    have hm := srt_mem h.2.2
    have h2 := h.2.1
    rcases List.mem_cons.mp hx with rfl | hx' <;> rcases List.mem_cons.mp hy with rfl | hy'
    · rfl
    · have := (hm y hy').1; simp only at he; omega
    · have := (hm x hx').1; simp only at he; omega
    · exact srt_first h.2.2 x hx' y hy' he
/-- the code of the first block from a on -/
def hdC (l : bL) : Int32 := match l with
  | [] => -1
  | x :: _ => nI x.1
theorem m_nextFrom (hT : mT T z nW) (h0 : fi 0 = nI nW) {pre rest : bL} (hB : mB ar nW (pre ++ rest)) {a : Nat} (ha : a ≤ 3000) (hp : ∀ x ∈ pre, x.2.1 < a) (hr : srt nW a rest) (hfu : 24 < fu) : fX10_nextFrom fu (mw T G nx z fi ar) z (nI a) = some (hdC rest, mw T G nx z fi ar) := by
  obtain ⟨best, b, e1, hP⟩ := m_nf_loop (fu := fu) (G := G) (nx := nx) (fi := fi) hT hB ha fu 0 nW (-1) (by omega) (by omega) (Or.inl ⟨rfl, rfl, fun x _ h => by omega⟩)
  simp +decide only [fX10_nextFrom, gI_m hT, h0, Option.bind_some, bn2_s, zz_0, zz_1, if_true, if_false, ite_true, ite_false, vI_i, vR_n, vR_r, vR_v, reduceCtorEq]
  rw [show (0 : Int32) = nI 0 from rfl, e1]
  congr 2
  have hall : ∀ x ∈ pre ++ rest, jb x.1 < 24 := fun x hx => cod_jb (hB.1 x hx).1
  rcases hP with ⟨h1, h2, h3⟩ | ⟨x, h1, h2, h3, h4, h5⟩
  · match rest, hr, hB, h3, hall with
    | [], _, _, _, _ => exact h1
    | y :: t, hr, hB, h3, hall =>
      have := h3 y (by simp) (hall y (by simp))
      have := (srt_mem hr y (by simp)).1
      omega
  · have hxr : x ∈ rest := by
      rcases List.mem_append.mp h1 with h | h
      · have := hp x h; omega
      · exact h
    match rest, hr, hB, h5, hall, hxr with
    | y :: t, hr, hB, h5, hall, hxr =>
      have h6 := h5 y (by simp) (hall y (by simp)) (srt_mem hr y (by simp)).1
      have h7 : y.2.1 ≤ x.2.1 := by
        rcases List.mem_cons.mp hxr with rfl | hx
        · exact Nat.le_refl _
        · have := srt_mem (e := y.2.1 + y.2.2) hr.2.2 x hx
          omega
      have : x = y := srt_first hr x hxr y (by simp) (by omega)
      rw [h3, this]
      rfl
theorem m_beginOf (hT : mT T z nW) {bl : bL} (hB : mB ar nW bl) {x : Nat × Nat × Nat} (hx : x ∈ bl) : fX10_beginOf fu (mw T G nx z fi ar) z (nI x.1) = some (nI x.2.1, mw T G nx z fi ar) := by
  obtain ⟨h1, h2, h3, h4, h5, h6⟩ := hB.1 x hx
  have hl := cod_lt h1
  by_cases c : x.1 < 100
  · have hj : x.1 < 24 := by unfold cod at h1; omega
    have : nI x.1 < (100 : Int32) := nI_lt (b := 100) c (by omega)
    unfold bOf at h3
    rw [if_pos c] at h3
    simp +decide only [fX10_beginOf, this, gR_m hT, aI_24 hT, hj, h3, Option.bind_some, bn2_s, zz_0, zz_1, if_true, if_false, ite_true, ite_false, vI_i, vR_n, vR_r, vR_v, reduceCtorEq]
  · have hj : x.1 - 100 < 24 := by unfold cod at h1; omega
    have : ¬ nI x.1 < (100 : Int32) := nI_nlt (b := 100) (by omega) (by omega)
    have h7 : nI x.1 - (100 : Int32) = nI (x.1 - 100) := pk_sub (b := 100) (by omega)
    unfold bOf at h3
    rw [if_neg c] at h3
    simp +decide only [fX10_beginOf, this, h7, gR_m hT, aI_24 hT, hj, h3, Option.bind_some, bn2_s, zz_0, zz_1, if_true, if_false, ite_true, ite_false, vI_i, vR_n, vR_r, vR_v, reduceCtorEq]
theorem m_sizeOf (hT : mT T z nW) {bl : bL} (hB : mB ar nW bl) {x : Nat × Nat × Nat} (hx : x ∈ bl) : fX10_sizeOf fu (mw T G nx z fi ar) z (nI x.1) = some (nI x.2.2, mw T G nx z fi ar) := by
  obtain ⟨h1, h2, h3, h4, h5, h6⟩ := hB.1 x hx
  have hl := cod_lt h1
  by_cases c : x.1 < 100
  · have hj : x.1 < 24 := by unfold cod at h1; omega
    have : nI x.1 < (100 : Int32) := nI_lt (b := 100) c (by omega)
    unfold zOf at h4
    rw [if_pos c] at h4
    simp +decide only [fX10_sizeOf, this, gR_m hT, aI_24 hT, hj, h4, Option.bind_some, bn2_s, zz_0, zz_1, if_true, if_false, ite_true, ite_false, vI_i, vR_n, vR_r, vR_v, reduceCtorEq]
  · have hj : x.1 - 100 < 24 := by unfold cod at h1; omega
    have : ¬ nI x.1 < (100 : Int32) := nI_nlt (b := 100) (by omega) (by omega)
    have h7 : nI x.1 - (100 : Int32) = nI (x.1 - 100) := pk_sub (b := 100) (by omega)
    unfold zOf at h4
    rw [if_neg c] at h4
    have h8 := m_bufferSize (fu := fu) (G := G) (nx := nx) (fi := fi) (ar := ar) hT hj
    unfold bsz at h4
    rw [h4] at h8
    simp +decide only [fX10_sizeOf, this, h7, rcv_m hT, h8, Option.bind_some, bn2_s, zz_0, zz_1, if_true, if_false, ite_true, ite_false, vI_i, vR_n, vR_r, vR_v, reduceCtorEq]
end MN
