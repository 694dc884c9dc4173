def badJ (nJ : Nat) (ar : Nat → Nat → Int32) (x : Int32) : Prop := x < 0 ∨ ∃ j, j < 2 ^ 31 ∧ x = nI j ∧ (nJ ≤ j ∨ (j < nJ ∧ ar 4 j = 0))
theorem jcase (nJ : Nat) (ar : Nat → Nat → Int32) (x : Int32) : badJ nJ ar x ∨ ∃ j, j < nJ ∧ x = nI j ∧ ar 4 j ≠ 0 := by
  by_cases h : x < 0
  · exact Or.inl (Or.inl h)
  · obtain ⟨j, h1, h2⟩ := nI_of h
    by_cases c : j < nJ
    · by_cases c2 : ar 4 j = 0
      · exact Or.inl (Or.inr ⟨j, h1, h2, Or.inr ⟨c, c2⟩⟩)
      · exact Or.inr ⟨j, c, h2, c2⟩
    · exact Or.inl (Or.inr ⟨j, h1, h2, Or.inl (by omega)⟩)
/-- how many of i, i + 1 .. (r of them) have p -/
def cU (p : Nat → Bool) : Nat → Nat → Nat
  | _, 0 => 0
  | i, r + 1 => (if p i then 1 else 0) + cU p (i + 1) r
theorem cU_congr {p p' : Nat → Bool} : ∀ (r i : Nat), (∀ k, i ≤ k → k < i + r → p' k = p k) → cU p' i r = cU p i r
  | 0, _, _ => rfl
  | r + 1, i, h => by unfold cU; rw [h i (by omega) (by omega), cU_congr r (i + 1) (fun k h1 h2 => h k (by omega) (by omega))]
theorem cU_rm (p : Nat → Bool) (a : Nat) : ∀ (r i : Nat), cU p i r = cU (fun k => p k && !(k == a)) i r + if (i ≤ a ∧ a < i + r) ∧ p a = true then 1 else 0
  | 0, i => by unfold cU; rw [if_neg (by omega)]
  | r + 1, i => by
    unfold cU
    rw [cU_rm p a r (i + 1)]
    by_cases e : i = a
    · subst e
      rw [if_neg (show ¬ ((i + 1 ≤ i ∧ i < i + 1 + r) ∧ p i = true) by omega)]
      by_cases c : p i = true
      · have : i ≤ i ∧ i < i + (r + 1) := by omega
        simp only [c, beq_self_eq_true, Bool.not_true, Bool.and_false, if_true, this, and_self]; simp; omega
      · simp [c]
    · have e2 : (i == a) = false := by simp [e]
      have e3 : (i + 1 ≤ a ∧ a < i + 1 + r) ↔ (i ≤ a ∧ a < i + (r + 1)) := by omega
      simp only [e2, Bool.not_false, Bool.and_true, e3]; omega
theorem cU_list : ∀ (l : List Nat) (p : Nat → Bool) (n : Nat), l.Nodup → (∀ k ∈ l, k < n) → (∀ k, k < n → p k = true → k ∈ l) → cU p 0 n = (l.filter p).length
  | [], p, n, _, _, h => by
    have : ∀ (r i : Nat), i + r ≤ n → cU p i r = 0 := by
      intro r
      induction r with
      | zero => intro i _; rfl
      | succ r ih =>
        intro i hi
        unfold cU
        rw [ih (i + 1) (by omega)]
        have : ¬ p i = true := fun z => by cases h i (by omega) z
        simp [this]
    rw [this n 0 (by omega)]; rfl
  | a :: l, p, n, hn, hl, h => by
    rw [List.nodup_cons] at hn
    have ha := hl a (by simp)
    have ih := cU_list l (fun k => p k && !(k == a)) n hn.2 (fun k hk => hl k (by simp [hk])) (fun k h1 h2 => by
      simp only [Bool.and_eq_true, Bool.not_eq_true', beq_eq_false_iff_ne, ne_eq] at h2
      have := h k h1 h2.1
      rcases List.mem_cons.mp this with e | e
      · exact absurd e h2.2
      · exact e)
    rw [cU_rm p a, ih]
    have hf : l.filter (fun k => p k && !(k == a)) = l.filter p := by
      apply List.filter_congr
      intro x hx
      have : x ≠ a := fun z => hn.1 (by rw [← z]; exact hx)
      simp [this]
    rw [hf, List.filter_cons]
    by_cases c : p a = true
    · simp only [c, and_true, if_true, List.length_cons]; rw [if_pos (by omega)]
    · simp [c]
theorem nd_len : ∀ (n : Nat) (l : List Nat), l.Nodup → (∀ k ∈ l, k < n) → l.length ≤ n := by
  intro n l h1 h2
  have h := cU_list l (fun k => decide (k ∈ l)) n h1 h2 (fun k _ h => by simpa using h)
  have e : l.filter (fun k => decide (k ∈ l)) = l := by
    rw [List.filter_eq_self]; intro x hx; simpa using hx
  rw [e] at h
  have : ∀ (p : Nat → Bool) (r i : Nat), cU p i r ≤ r := by
    intro p r
    induction r with
    | zero => intro i; exact Nat.le_refl _
    | succ r ih => intro i; unfold cU; have := ih (i + 1); split <;> omega
  have := this (fun k => decide (k ∈ l)) n 0
  omega
/-- a is ahead of b -/
def aft (ar : Nat → Nat → Int32) (a b : Nat) : Prop := ar 7 b < ar 7 a ∨ (ar 7 a = ar 7 b ∧ ar 11 a < ar 11 b)
theorem i32_irr (a : Int32) : ¬ a < a := by rw [Int32.lt_iff_toInt_lt]; omega
theorem i32_asy {a b : Int32} (h : a < b) : ¬ b < a := by rw [Int32.lt_iff_toInt_lt] at h ⊢; omega
theorem i32_nlt {a b : Int32} : ¬ a < b ↔ b ≤ a := by rw [Int32.lt_iff_toInt_lt, Int32.le_iff_toInt_le]; omega
theorem i32_nle {a b : Int32} : ¬ a ≤ b ↔ b < a := by rw [Int32.lt_iff_toInt_lt, Int32.le_iff_toInt_le]; omega
theorem i32_tr {a b c : Int32} (h : a < b) (h2 : b < c) : a < c := by rw [Int32.lt_iff_toInt_lt] at h h2 ⊢; omega
theorem aft_asy {ar : Nat → Nat → Int32} {a b : Nat} (h : aft ar a b) : ¬ aft ar b a := by
  rintro (h2 | ⟨h2, h3⟩)
  · rcases h with h | ⟨h, h1⟩
    · exact i32_asy h h2
    · rw [h] at h2; exact i32_irr _ h2
  · rcases h with h | ⟨h, h1⟩
    · rw [h2] at h; exact i32_irr _ h
    · exact i32_asy h1 h3
theorem aft_tr {ar : Nat → Nat → Int32} {a b c : Nat} (h : aft ar a b) (h2 : aft ar b c) : aft ar a c := by
  rcases h with h | ⟨h, h1⟩
  · rcases h2 with h2 | ⟨h2, h3⟩
    · exact Or.inl (i32_tr h2 h)
    · exact Or.inl (by rw [← h2]; exact h)
  · rcases h2 with h2 | ⟨h2, h3⟩
    · exact Or.inl (by rw [h]; exact h2)
    · exact Or.inr ⟨h.trans h2, i32_tr h1 h3⟩
theorem pw_cmp {R : Nat → Nat → Prop} : ∀ {l : List Nat}, l.Pairwise R → ∀ a ∈ l, ∀ b ∈ l, a = b ∨ R a b ∨ R b a
  | [], _, a, ha, _, _ => by cases ha
  | x :: l, h, a, ha, b, hb => by
    rw [List.pairwise_cons] at h
    rcases List.mem_cons.mp ha with e1 | ha2
    · rcases List.mem_cons.mp hb with e2 | hb2
      · exact Or.inl (by rw [e1, e2])
      · exact Or.inr (Or.inl (by rw [e1]; exact h.1 b hb2))
    · rcases List.mem_cons.mp hb with e2 | hb2
      · exact Or.inr (Or.inr (by rw [e2]; exact h.1 a ha2))
      · exact pw_cmp h.2 a ha2 b hb2
def hdQ (l : List Nat) : Int32 := match l with
  | [] => -1
  | j :: _ => nI j
def pb (ar : Nat → Nat → Int32) (fi : Nat → Int32) (j : Nat) : Nat → Nat → Int32 := fun k q => if k = 19 ∧ 10 * j ≤ q ∧ q < 10 * j + 10 then fi (22 + (q - 10 * j)) else ar k q
def tu (fi : Nat → Int32) (ar : Nat → Nat → Int32) (j : Nat) : Nat → Int32 := fun k => if k = 20 then nI j else if k = 21 then ar 5 j else if 22 ≤ k ∧ k ≤ 31 then ar 19 (10 * j + (k - 22)) else fi k
section ML2
variable {T : Nat → Option (Nat × Nat)} {G : Nat → Nat → Value} {nx z nW nJ fu j : Nat} {fi : Nat → Int32} {ar : Nat → Nat → Int32}
theorem m_isJob0 (hT : mT T z nW) (f1 : fi 1 = nI nJ) (hJ : nJ ≤ 24) {x : Int32} (h : badJ nJ ar x) : fX10_isJob fu (mw T G nx z fi ar) z x = some (0, mw T G nx z fi ar) := by
  rcases h with h | ⟨j, h1, rfl, h2⟩
  · simp only [fX10_isJob, h, Option.bind_some, bn2_s, zz_0, zz_1, if_true, if_false, ite_true, ite_false, vI_i, vR_n, vR_r, vR_v, reduceCtorEq]
  · have h0 := nI_pos h1
    rcases h2 with h2 | ⟨h2, h3⟩
    · have c : nI nJ ≤ nI j := nI_le h2 h1
      simp +decide only [fX10_isJob, h0, Option.bind_some, bn2_s, zz_0, zz_1, if_true, if_false, ite_true, ite_false, vI_i, vR_n, vR_r, vR_v, reduceCtorEq, gI_m hT, gR_m hT, rcv_m hT, pV_m hT, aI_24 hT, sV_24 hT, aI_3 hT, sV_3 hT, aI_18 hT, sV_18 hT, aI_19 hT, sV_19 hT, aI_mZ hT, sV_mZ hT, ui_s, ui_n, ua_s, ua_k, f1, c]
    · have c : ¬ nI nJ ≤ nI j := nI_ge h2 (by omega)
      have hh := m_has (fu := fu) (G := G) (nx := nx) (fi := fi) (ar := ar) hT (j := j) (by omega)
      rw [if_pos h3] at hh
      simp +decide only [fX10_isJob, h0, Option.bind_some, bn2_s, zz_0, zz_1, if_true, if_false, ite_true, ite_false, vI_i, vR_n, vR_r, vR_v, reduceCtorEq, gI_m hT, gR_m hT, rcv_m hT, pV_m hT, aI_24 hT, sV_24 hT, aI_3 hT, sV_3 hT, aI_18 hT, sV_18 hT, aI_19 hT, sV_19 hT, aI_mZ hT, sV_mZ hT, ui_s, ui_n, ua_s, ua_k, f1, c, hh]
theorem m_isJob1 (hT : mT T z nW) (f1 : fi 1 = nI nJ) (hJ : nJ ≤ 24) (h2 : j < nJ) (h3 : ar 4 j ≠ 0) : fX10_isJob fu (mw T G nx z fi ar) z (nI j) = some (1, mw T G nx z fi ar) := by
  have h0 := nI_pos (n := j) (by omega)
  have c : ¬ nI nJ ≤ nI j := nI_ge h2 (by omega)
  have hh := m_has (fu := fu) (G := G) (nx := nx) (fi := fi) (ar := ar) hT (j := j) (by omega)
  rw [if_neg h3] at hh
  simp +decide only [fX10_isJob, h0, Option.bind_some, bn2_s, zz_0, zz_1, if_true, if_false, ite_true, ite_false, vI_i, vR_n, vR_r, vR_v, reduceCtorEq, gI_m hT, gR_m hT, rcv_m hT, pV_m hT, aI_24 hT, sV_24 hT, aI_3 hT, sV_3 hT, aI_18 hT, sV_18 hT, aI_19 hT, sV_19 hT, aI_mZ hT, sV_mZ hT, ui_s, ui_n, ua_s, ua_k, f1, c, hh]
theorem m_gte (hT : mT T z nW) (hj : j < 24) : fX10_goesToEnd fu (mw T G nx z fi ar) z (nI j) = some ((), mw T G nx z (ui fi 16 (fi 16 + 1)) (ua ar 11 j (fi 16))) := by
  simp +decide only [fX10_goesToEnd, Option.bind_some, bn2_s, zz_0, zz_1, if_true, if_false, ite_true, ite_false, vI_i, vR_n, vR_r, vR_v, reduceCtorEq, gI_m hT, gR_m hT, rcv_m hT, pV_m hT, aI_24 hT, sV_24 hT, aI_3 hT, sV_3 hT, aI_18 hT, sV_18 hT, aI_19 hT, sV_19 hT, aI_mZ hT, sV_mZ hT, ui_s, ui_n, ua_s, ua_k, hj]
theorem m_tu (hT : mT T z nW) (hj : j < 24) : fX10_takesUp fu (mw T G nx z fi ar) z (nI j) = some ((), mw T G nx z (tu fi ar j) ar) := by
  rw [m_takesUp hT hj]
  congr 3
  have : ui (ui (ui (ui (ui (ui (ui (ui (ui (ui (ui (ui fi 20 (nI j)) 21 (ar 5 j)) 22 (ar 19 (10 * j))) 23 (ar 19 (10 * j + 1))) 24 (ar 19 (10 * j + 2))) 25 (ar 19 (10 * j + 3))) 26 (ar 19 (10 * j + 4))) 27 (ar 19 (10 * j + 5))) 28 (ar 19 (10 * j + 6))) 29 (ar 19 (10 * j + 7))) 30 (ar 19 (10 * j + 8))) 31 (ar 19 (10 * j + 9)) = tu fi ar j := by
    funext k
    unfold tu
    by_cases c : 20 ≤ k ∧ k ≤ 31
    · have : k = 20 ∨ k = 21 ∨ k = 22 ∨ k = 23 ∨ k = 24 ∨ k = 25 ∨ k = 26 ∨ k = 27 ∨ k = 28 ∨ k = 29 ∨ k = 30 ∨ k = 31 := by omega
      rcases this with rfl | rfl | rfl | rfl | rfl | rfl | rfl | rfl | rfl | rfl | rfl | rfl <;> rfl
    · simp only [ui]
      repeat rw [if_neg (by omega)]
  rw [this]
theorem m_putsBy (hT : mT T z nW) (h20 : fi 20 = nI j) (hj : j < 24) : fX10_putsBy fu (mw T G nx z fi ar) z = some ((), mw T G nx z fi (pb ar fi j)) := by
  have h0 : 10 * j < 240 := by omega
  have h1 : 10 * j + 1 < 240 := by omega
  have h2 : 10 * j + 2 < 240 := by omega
  have h3 : 10 * j + 3 < 240 := by omega
  have h4 : 10 * j + 4 < 240 := by omega
  have h5 : 10 * j + 5 < 240 := by omega
  have h6 : 10 * j + 6 < 240 := by omega
  have h7 : 10 * j + 7 < 240 := by omega
  have h8 : 10 * j + 8 < 240 := by omega
  have h9 : 10 * j + 9 < 240 := by omega
  simp +decide only [fX10_putsBy, Option.bind_some, bn2_s, zz_0, zz_1, if_true, if_false, ite_true, ite_false, vI_i, vR_n, vR_r, vR_v, reduceCtorEq, gI_m hT, gR_m hT, rcv_m hT, pV_m hT, aI_24 hT, sV_24 hT, aI_3 hT, sV_3 hT, aI_18 hT, sV_18 hT, aI_19 hT, sV_19 hT, aI_mZ hT, sV_mZ hT, ui_s, ui_n, ua_s, ua_k, h20, nI_10, nI_ad1, nI_ad2, nI_ad3, nI_ad4, nI_ad5, nI_ad6, nI_ad7, nI_ad8, nI_ad9, h0, h1, h2, h3, h4, h5, h6, h7, h8, h9]
  congr 4
  funext k q
  unfold pb
  by_cases c : k = 19 ∧ 10 * j ≤ q ∧ q < 10 * j + 10
  · rw [if_pos c]
    obtain ⟨rfl, c1, c2⟩ := c
    obtain ⟨i, rfl⟩ : ∃ i, q = 10 * j + i := ⟨q - 10 * j, by omega⟩
    have : i = 0 ∨ i = 1 ∨ i = 2 ∨ i = 3 ∨ i = 4 ∨ i = 5 ∨ i = 6 ∨ i = 7 ∨ i = 8 ∨ i = 9 := by omega
    rcases this with rfl | rfl | rfl | rfl | rfl | rfl | rfl | rfl | rfl | rfl <;> simp [ua, Nat.add_sub_cancel_left]
  · rw [if_neg c]
    simp only [ua]
    repeat rw [if_neg (by omega)]
/-- whose turn it is -/
theorem m_turn_loop (hT : mT T z nW) (f1 : fi 1 = nI nJ) (hJ : nJ ≤ 24) {ql : List Nat} (qm : ∀ k, k ∈ ql ↔ ar 4 k = 2) (q0 : ∀ k ∈ ql, k < nJ) (qs : ql.Pairwise (aft ar)) : ∀ (r m i : Nat) (best : Int32), i + r = nJ → r < m →
    ((best = -1 ∧ ∀ k, k < i → k ∉ ql) ∨ ∃ b, b ∈ ql ∧ b < i ∧ best = nI b ∧ ∀ k, k < i → k ∈ ql → k = b ∨ aft ar b k) → fX10_turn_4 fu m (mw T G nx z fi ar) z best (nI i) = some (hdQ ql, mw T G nx z fi ar) := by
  intro r
  induction r with
  | zero =>
    intro m i best h1 h2 h
    obtain ⟨m, rfl⟩ : ∃ k, m = k + 1 := ⟨m - 1, by omega⟩
    have c : nI nJ ≤ nI i := nI_le (by omega) (by omega)
    have e : best = hdQ ql := by
      match ql, qm, q0, qs, h with
      | [], _, _, _, h =>
        rcases h with ⟨h, _⟩ | ⟨b, hb, _⟩
        · exact h
        · cases hb
      | a :: l, qm, q0, qs, h =>
        have ha := q0 a (by simp)
        rcases h with ⟨_, h⟩ | ⟨b, hb, h3, h4, h5⟩
        · exact absurd (by simp) (h a (by omega))
        · rw [h4]
          rcases h5 a (by omega) (by simp) with e | e
          · rw [e]; rfl
          · rcases List.mem_cons.mp hb with hb | hb
            · rw [hb]; rfl
            · exact absurd e (aft_asy ((List.pairwise_cons.mp qs).1 b hb))
    simp +decide only [fX10_turn_4, Option.bind_some, bn2_s, zz_0, zz_1, if_true, if_false, ite_true, ite_false, vI_i, vR_n, vR_r, vR_v, reduceCtorEq, gI_m hT, gR_m hT, rcv_m hT, pV_m hT, aI_24 hT, sV_24 hT, aI_3 hT, sV_3 hT, aI_18 hT, sV_18 hT, aI_19 hT, sV_19 hT, aI_mZ hT, sV_mZ hT, ui_s, ui_n, ua_s, ua_k, f1, c, e]
  | succ r ih =>
    intro m i best h1 h2 h
    obtain ⟨m, rfl⟩ : ∃ k, m = k + 1 := ⟨m - 1, by omega⟩
    have c : ¬ nI nJ ≤ nI i := nI_ge (by omega) (by omega)
    have hi : i < 24 := by omega
    by_cases c2 : ar 4 i = 2
    · have hiq : i ∈ ql := (qm i).mpr c2
      rcases h with ⟨rfl, h⟩ | ⟨b, hb, h3, rfl, h5⟩
      · have := ih m (i + 1) (nI i) (by omega) (by omega) (Or.inr ⟨i, hiq, by omega, rfl, fun k hk hq => by
          by_cases e : k = i
          · exact Or.inl e
          · exact absurd hq (h k (by omega))⟩)
        simp +decide only [fX10_turn_4, fX10_turn_75, fX10_turn_80, fX10_turn_87, Option.bind_some, bn2_s, zz_0, zz_1, if_true, if_false, ite_true, ite_false, vI_i, vR_n, vR_r, vR_v, reduceCtorEq, gI_m hT, gR_m hT, rcv_m hT, pV_m hT, aI_24 hT, sV_24 hT, aI_3 hT, sV_3 hT, aI_18 hT, sV_18 hT, aI_19 hT, sV_19 hT, aI_mZ hT, sV_mZ hT, ui_s, ui_n, ua_s, ua_k, f1, c, hi, c2, nI_ad1, this]
      · have hb24 : b < 24 := by omega
        have n1 : ¬ nI b = (-1 : Int32) := nI_n1 (by omega)
        have stay := ih m (i + 1) (nI b) (by omega) (by omega)
        have go := ih m (i + 1) (nI i) (by omega) (by omega)
        rcases pw_cmp qs b hb i hiq with e | e | e
        · omega
        · have st := stay (Or.inr ⟨b, hb, by omega, rfl, fun k hk hq => by
            by_cases e2 : k = i
            · rw [e2]; exact Or.inr e
            · exact h5 k (by omega) hq⟩)
          rcases e with e | ⟨e, e2⟩
          · have d1 : ¬ ar 7 b < ar 7 i := i32_asy e
            have d2 : ¬ ar 7 i = ar 7 b := fun z => by rw [z] at e; exact i32_irr _ e
            simp +decide only [fX10_turn_4, fX10_turn_79, fX10_turn_80, fX10_turn_87, Option.bind_some, bn2_s, zz_0, zz_1, if_true, if_false, ite_true, ite_false, vI_i, vR_n, vR_r, vR_v, reduceCtorEq, gI_m hT, gR_m hT, rcv_m hT, pV_m hT, aI_24 hT, sV_24 hT, aI_3 hT, sV_3 hT, aI_18 hT, sV_18 hT, aI_19 hT, sV_19 hT, aI_mZ hT, sV_mZ hT, ui_s, ui_n, ua_s, ua_k, f1, c, hi, hb24, c2, n1, d1, d2, nI_ad1, st]
          · have d1 : ¬ ar 7 b < ar 7 i := fun z => by rw [e] at z; exact i32_irr _ z
            have d2 : ar 7 i = ar 7 b := e.symm
            have d3 : ar 11 b ≤ ar 11 i := i32_nlt.mp (i32_asy e2)
            simp +decide only [fX10_turn_4, fX10_turn_79, fX10_turn_80, fX10_turn_87, Option.bind_some, bn2_s, zz_0, zz_1, if_true, if_false, ite_true, ite_false, vI_i, vR_n, vR_r, vR_v, reduceCtorEq, gI_m hT, gR_m hT, rcv_m hT, pV_m hT, aI_24 hT, sV_24 hT, aI_3 hT, sV_3 hT, aI_18 hT, sV_18 hT, aI_19 hT, sV_19 hT, aI_mZ hT, sV_mZ hT, ui_s, ui_n, ua_s, ua_k, f1, c, hi, hb24, c2, n1, d1, d2, d3, i32_irr, nI_ad1, st]
        · have g := go (Or.inr ⟨i, hiq, by omega, rfl, fun k hk hq => by
            by_cases e2 : k = i
            · exact Or.inl e2
            · rcases h5 k (by omega) hq with e3 | e3
              · rw [e3]; exact Or.inr e
              · exact Or.inr (aft_tr e e3)⟩)
          rcases e with e | ⟨e, e2⟩
          · simp +decide only [fX10_turn_4, fX10_turn_75, fX10_turn_80, fX10_turn_87, Option.bind_some, bn2_s, zz_0, zz_1, if_true, if_false, ite_true, ite_false, vI_i, vR_n, vR_r, vR_v, reduceCtorEq, gI_m hT, gR_m hT, rcv_m hT, pV_m hT, aI_24 hT, sV_24 hT, aI_3 hT, sV_3 hT, aI_18 hT, sV_18 hT, aI_19 hT, sV_19 hT, aI_mZ hT, sV_mZ hT, ui_s, ui_n, ua_s, ua_k, f1, c, hi, hb24, c2, n1, e, nI_ad1, g]
          · have d3 : ¬ ar 11 b ≤ ar 11 i := i32_nle.mpr e2
            simp +decide only [fX10_turn_4, fX10_turn_75, fX10_turn_80, fX10_turn_87, Option.bind_some, bn2_s, zz_0, zz_1, if_true, if_false, ite_true, ite_false, vI_i, vR_n, vR_r, vR_v, reduceCtorEq, gI_m hT, gR_m hT, rcv_m hT, pV_m hT, aI_24 hT, sV_24 hT, aI_3 hT, sV_3 hT, aI_18 hT, sV_18 hT, aI_19 hT, sV_19 hT, aI_mZ hT, sV_mZ hT, ui_s, ui_n, ua_s, ua_k, f1, c, hi, hb24, c2, n1, e, d3, i32_irr, nI_ad1, g]
    · have := ih m (i + 1) best (by omega) (by omega) (by
        rcases h with ⟨h, h6⟩ | ⟨b, hb, h3, h4, h5⟩
        · refine Or.inl ⟨h, fun k hk hq => ?_⟩
          by_cases e : k = i
          · rw [e] at hq; exact c2 ((qm i).mp hq)
          · exact h6 k (by omega) hq
        · refine Or.inr ⟨b, hb, by omega, h4, fun k hk hq => ?_⟩
          by_cases e : k = i
          · rw [e] at hq; exact absurd ((qm i).mp hq) c2
          · exact h5 k (by omega) hq)
      simp +decide only [fX10_turn_4, fX10_turn_87, Option.bind_some, bn2_s, zz_0, zz_1, if_true, if_false, ite_true, ite_false, vI_i, vR_n, vR_r, vR_v, reduceCtorEq, gI_m hT, gR_m hT, rcv_m hT, pV_m hT, aI_24 hT, sV_24 hT, aI_3 hT, sV_3 hT, aI_18 hT, sV_18 hT, aI_19 hT, sV_19 hT, aI_mZ hT, sV_mZ hT, ui_s, ui_n, ua_s, ua_k, f1, c, hi, c2, nI_ad1, this]
theorem m_turn (hT : mT T z nW) (f1 : fi 1 = nI nJ) (hJ : nJ ≤ 24) {ql : List Nat} (qm : ∀ k, k ∈ ql ↔ ar 4 k = 2) (q0 : ∀ k ∈ ql, k < nJ) (qs : ql.Pairwise (aft ar)) (hfu : 24 < fu) : fX10_turn fu (mw T G nx z fi ar) z = some (hdQ ql, mw T G nx z fi ar) :=
  m_turn_loop hT f1 hJ qm q0 qs nJ fu 0 (-1) (by omega) (by omega) (Or.inl ⟨rfl, fun k hk => by omega⟩)
/-- how many are ahead, and the two counts -/
theorem m_ahead_loop (hT : mT T z nW) (f1 : fi 1 = nI nJ) (hJ : nJ ≤ 24) (hj : j < 24) : ∀ (r m i a : Nat), i + r = nJ → r < m → fX10_ahead_16 fu m (mw T G nx z fi ar) z (nI j) (nI a) (nI i) = some (nI (a + cU (fun k => decide (ar 4 k = 2 ∧ ar 7 k = ar 7 j ∧ ar 11 k < ar 11 j)) i r), mw T G nx z fi ar) := by
  intro r
  induction r with
  | zero =>
    intro m i a h1 h2
    obtain ⟨m, rfl⟩ : ∃ k, m = k + 1 := ⟨m - 1, by omega⟩
    have c : nI nJ ≤ nI i := nI_le (by omega) (by omega)
    simp +decide only [fX10_ahead_16, Option.bind_some, bn2_s, zz_0, zz_1, if_true, if_false, ite_true, ite_false, vI_i, vR_n, vR_r, vR_v, reduceCtorEq, gI_m hT, gR_m hT, rcv_m hT, pV_m hT, aI_24 hT, sV_24 hT, aI_3 hT, sV_3 hT, aI_18 hT, sV_18 hT, aI_19 hT, sV_19 hT, aI_mZ hT, sV_mZ hT, ui_s, ui_n, ua_s, ua_k, f1, c, cU, Nat.add_zero]
  | succ r ih =>
    intro m i a h1 h2
    obtain ⟨m, rfl⟩ : ∃ k, m = k + 1 := ⟨m - 1, by omega⟩
    have c : ¬ nI nJ ≤ nI i := nI_ge (by omega) (by omega)
    have hi : i < 24 := by omega
    have st := ih m (i + 1) a (by omega) (by omega)
    have go := ih m (i + 1) (a + 1) (by omega) (by omega)
    unfold cU
    by_cases c2 : ar 4 i = 2
    · by_cases c3 : ar 7 i = ar 7 j
      · by_cases c4 : ar 11 i < ar 11 j
        · have d : ¬ ar 11 j ≤ ar 11 i := i32_nle.mpr c4
          simp +decide only [fX10_ahead_16, fX10_ahead_69, fX10_ahead_70, Option.bind_some, bn2_s, zz_0, zz_1, if_true, if_false, ite_true, ite_false, vI_i, vR_n, vR_r, vR_v, reduceCtorEq, gI_m hT, gR_m hT, rcv_m hT, pV_m hT, aI_24 hT, sV_24 hT, aI_3 hT, sV_3 hT, aI_18 hT, sV_18 hT, aI_19 hT, sV_19 hT, aI_mZ hT, sV_mZ hT, ui_s, ui_n, ua_s, ua_k, f1, c, hi, hj, c2, c3, c4, d, nI_ad1, go, decide_true, and_self]
          rw [Nat.add_assoc]
        · have d : ar 11 j ≤ ar 11 i := i32_nlt.mp c4
          simp +decide only [fX10_ahead_16, fX10_ahead_69, fX10_ahead_70, Option.bind_some, bn2_s, zz_0, zz_1, if_true, if_false, ite_true, ite_false, vI_i, vR_n, vR_r, vR_v, reduceCtorEq, gI_m hT, gR_m hT, rcv_m hT, pV_m hT, aI_24 hT, sV_24 hT, aI_3 hT, sV_3 hT, aI_18 hT, sV_18 hT, aI_19 hT, sV_19 hT, aI_mZ hT, sV_mZ hT, ui_s, ui_n, ua_s, ua_k, f1, c, hi, hj, c2, c3, c4, d, nI_ad1, Int32.add_zero, st, decide_false, and_false, Nat.zero_add]
      · simp +decide only [fX10_ahead_16, fX10_ahead_69, fX10_ahead_70, Option.bind_some, bn2_s, zz_0, zz_1, if_true, if_false, ite_true, ite_false, vI_i, vR_n, vR_r, vR_v, reduceCtorEq, gI_m hT, gR_m hT, rcv_m hT, pV_m hT, aI_24 hT, sV_24 hT, aI_3 hT, sV_3 hT, aI_18 hT, sV_18 hT, aI_19 hT, sV_19 hT, aI_mZ hT, sV_mZ hT, ui_s, ui_n, ua_s, ua_k, f1, c, hi, hj, c2, c3, nI_ad1, Int32.add_zero, st, decide_false, and_false, false_and, Nat.zero_add]
    · simp +decide only [fX10_ahead_16, fX10_ahead_69, fX10_ahead_70, Option.bind_some, bn2_s, zz_0, zz_1, if_true, if_false, ite_true, ite_false, vI_i, vR_n, vR_r, vR_v, reduceCtorEq, gI_m hT, gR_m hT, rcv_m hT, pV_m hT, aI_24 hT, sV_24 hT, aI_3 hT, sV_3 hT, aI_18 hT, sV_18 hT, aI_19 hT, sV_19 hT, aI_mZ hT, sV_mZ hT, ui_s, ui_n, ua_s, ua_k, f1, c, hi, hj, c2, nI_ad1, Int32.add_zero, st, decide_false, false_and, Nat.zero_add]
theorem m_c99 (hT : mT T z nW) (f1 : fi 1 = nI nJ) (hJ : nJ ≤ 24) : ∀ (r m i a : Nat), i + r = nJ → r < m → fX10_count_99 fu m (mw T G nx z fi ar) z (nI a) (nI i) = some (nI (a + cU (fun k => decide (ar 4 k = 2)) i r), mw T G nx z fi ar) := by
  intro r
  induction r with
  | zero =>
    intro m i a h1 h2
    obtain ⟨m, rfl⟩ : ∃ k, m = k + 1 := ⟨m - 1, by omega⟩
    have c : nI nJ ≤ nI i := nI_le (by omega) (by omega)
    simp +decide only [fX10_count_99, Option.bind_some, bn2_s, zz_0, zz_1, if_true, if_false, ite_true, ite_false, vI_i, vR_n, vR_r, vR_v, reduceCtorEq, gI_m hT, gR_m hT, rcv_m hT, pV_m hT, aI_24 hT, sV_24 hT, aI_3 hT, sV_3 hT, aI_18 hT, sV_18 hT, aI_19 hT, sV_19 hT, aI_mZ hT, sV_mZ hT, ui_s, ui_n, ua_s, ua_k, f1, c, cU, Nat.add_zero]
  | succ r ih =>
    intro m i a h1 h2
    obtain ⟨m, rfl⟩ : ∃ k, m = k + 1 := ⟨m - 1, by omega⟩
    have c : ¬ nI nJ ≤ nI i := nI_ge (by omega) (by omega)
    have hi : i < 24 := by omega
    have st := ih m (i + 1) a (by omega) (by omega)
    have go := ih m (i + 1) (a + 1) (by omega) (by omega)
    unfold cU
    by_cases c2 : ar 4 i = 2
    · simp +decide only [fX10_count_99, fX10_count_123, Option.bind_some, bn2_s, zz_0, zz_1, if_true, if_false, ite_true, ite_false, vI_i, vR_n, vR_r, vR_v, reduceCtorEq, gI_m hT, gR_m hT, rcv_m hT, pV_m hT, aI_24 hT, sV_24 hT, aI_3 hT, sV_3 hT, aI_18 hT, sV_18 hT, aI_19 hT, sV_19 hT, aI_mZ hT, sV_mZ hT, ui_s, ui_n, ua_s, ua_k, f1, c, hi, c2, nI_ad1, go, decide_true]
      rw [Nat.add_assoc]
    · simp +decide only [fX10_count_99, fX10_count_123, Option.bind_some, bn2_s, zz_0, zz_1, if_true, if_false, ite_true, ite_false, vI_i, vR_n, vR_r, vR_v, reduceCtorEq, gI_m hT, gR_m hT, rcv_m hT, pV_m hT, aI_24 hT, sV_24 hT, aI_3 hT, sV_3 hT, aI_18 hT, sV_18 hT, aI_19 hT, sV_19 hT, aI_mZ hT, sV_mZ hT, ui_s, ui_n, ua_s, ua_k, f1, c, hi, c2, nI_ad1, Int32.add_zero, st, decide_false, Nat.zero_add]
theorem m_c65 (hT : mT T z nW) (f1 : fi 1 = nI nJ) (hJ : nJ ≤ 24) : ∀ (r m i a : Nat), i + r = nJ → r < m → fX10_count_65 fu m (mw T G nx z fi ar) z (nI a) (nI i) = some (nI (a + cU (fun k => decide (ar 4 k ≠ 0)) i r), mw T G nx z fi ar) := by
  intro r
  induction r with
  | zero =>
    intro m i a h1 h2
    obtain ⟨m, rfl⟩ : ∃ k, m = k + 1 := ⟨m - 1, by omega⟩
    have c : nI nJ ≤ nI i := nI_le (by omega) (by omega)
    simp +decide only [fX10_count_65, Option.bind_some, bn2_s, zz_0, zz_1, if_true, if_false, ite_true, ite_false, vI_i, vR_n, vR_r, vR_v, reduceCtorEq, gI_m hT, gR_m hT, rcv_m hT, pV_m hT, aI_24 hT, sV_24 hT, aI_3 hT, sV_3 hT, aI_18 hT, sV_18 hT, aI_19 hT, sV_19 hT, aI_mZ hT, sV_mZ hT, ui_s, ui_n, ua_s, ua_k, f1, c, cU, Nat.add_zero]
  | succ r ih =>
    intro m i a h1 h2
    obtain ⟨m, rfl⟩ : ∃ k, m = k + 1 := ⟨m - 1, by omega⟩
    have c : ¬ nI nJ ≤ nI i := nI_ge (by omega) (by omega)
    have hh := m_has (fu := fu) (G := G) (nx := nx) (fi := fi) (ar := ar) hT (j := i) (by omega)
    have st := ih m (i + 1) a (by omega) (by omega)
    have go := ih m (i + 1) (a + 1) (by omega) (by omega)
    unfold cU
    by_cases c2 : ar 4 i = 0
    · rw [if_pos c2] at hh
      simp +decide only [fX10_count_65, fX10_count_87, Option.bind_some, bn2_s, zz_0, zz_1, if_true, if_false, ite_true, ite_false, vI_i, vR_n, vR_r, vR_v, reduceCtorEq, gI_m hT, gR_m hT, rcv_m hT, pV_m hT, aI_24 hT, sV_24 hT, aI_3 hT, sV_3 hT, aI_18 hT, sV_18 hT, aI_19 hT, sV_19 hT, aI_mZ hT, sV_mZ hT, ui_s, ui_n, ua_s, ua_k, f1, c, hh, c2, nI_ad1, Int32.add_zero, st, ne_eq, not_true_eq_false, decide_false, Nat.zero_add]
    · rw [if_neg c2] at hh
      simp +decide only [fX10_count_65, fX10_count_87, Option.bind_some, bn2_s, zz_0, zz_1, if_true, if_false, ite_true, ite_false, vI_i, vR_n, vR_r, vR_v, reduceCtorEq, gI_m hT, gR_m hT, rcv_m hT, pV_m hT, aI_24 hT, sV_24 hT, aI_3 hT, sV_3 hT, aI_18 hT, sV_18 hT, aI_19 hT, sV_19 hT, aI_mZ hT, sV_mZ hT, ui_s, ui_n, ua_s, ua_k, f1, c, hh, c2, nI_ad1, go, ne_eq, not_false_eq_true, decide_true]
      rw [Nat.add_assoc]
end ML2
