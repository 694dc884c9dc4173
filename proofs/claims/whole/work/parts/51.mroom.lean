section MR
variable {T : Nat → Option (Nat × Nat)} {G : Nat → Nat → Value} {nx z nW fu : Nat} {fi : Nat → Int32} {ar : Nat → Nat → Int32}
def oN (r : Option Nat) : Int32 := match r with
  | none => -1
  | some a => nI a
theorem m_room_loop (hT : mT T z nW) (h0 : fi 0 = nI nW) {k : Nat} (hk : 0 < k) (hk2 : k ≤ 3000) (hfu : 24 < fu) : ∀ (m : Nat) (rest pre : bL) (a : Nat), mB ar nW (pre ++ rest) → (∀ x ∈ pre, x.2.1 < a) → srt nW a rest → a ≤ 3000 → rest.length < m →
    fX10_room_2 fu m (mw T G nx z fi ar) z (nI k) (nI a) = some (oN (ff nW k a rest), mw T G nx z fi ar) := by
  have hW := hT.2.1
  intro m
  induction m with
  | zero => intro rest pre a _ _ _ _ hm; omega
  | succ m ih =>
    intro rest pre a hB hp hr ha hm
    have hle := srt_le hr
    have hn := m_nextFrom (fu := fu) (G := G) (nx := nx) hT h0 hB ha hp hr hfu
    rw [fX10_room_2]
    simp +decide only [gI_m hT, h0, rcv_m hT, hn, Option.bind_some, bn2_s, zz_0, zz_1, if_true, if_false, ite_true, ite_false, vI_i, vR_n, vR_r, vR_v, reduceCtorEq]
    by_cases c0 : a = nW
    · subst c0
      rw [if_pos (nI_le (Nat.le_refl _) (by omega))]
      match rest, hr with
      | [], _ => simp only [ff]; rw [if_neg (by omega)]; rfl
      | x :: t, hr => have := hr.1; have := hr.2.1; have := srt_le hr.2.2; omega
    · rw [if_neg (nI_ge (by omega) (by omega))]
      match rest, hB, hr, hm, hn with
      | [], hB, hr, hm, hn =>
        simp +decide only [hdC, fX10_room_33, gI_m hT, h0, Option.bind_some, bn2_s, zz_0, zz_1, if_true, if_false, ite_true, ite_false, vI_i, vR_n, vR_r, vR_v, reduceCtorEq, pk_sub hle, ff]
        by_cases c1 : a + k ≤ nW
        · rw [if_neg (nI_nlt (by omega) (by omega)), if_pos c1]; rfl
        · rw [if_pos (nI_lt (by omega) (by omega)), if_neg c1]; rfl
      | (q, f, s) :: t, hB, hr, hm, hn =>
        have hx : (q, f, s) ∈ pre ++ (q, f, s) :: t := by simp
        have hbo := m_beginOf (fu := fu) (G := G) (nx := nx) (fi := fi) hT hB hx
        have hzo := m_sizeOf (fu := fu) (G := G) (nx := nx) (fi := fi) hT hB hx
        have hq := cod_lt (hB.1 _ hx).1
        have hs := srt_le hr.2.2
        have hr1 := hr.1
        have hr2 := hr.2.1
        simp only at hbo hzo hq
        have hq1 : ¬ nI q = (-1 : Int32) := nI_n1 (by omega)
        simp only [hdC, hq1, rcv_m hT, hbo, fX10_room_33, pk_sub hr1, hzo, nI_add, ff, Option.bind_some, bn2_s, zz_0, zz_1, if_true, if_false, ite_true, ite_false, vI_i, vR_n, vR_r, vR_v, reduceCtorEq]
        by_cases c1 : a + k ≤ f
        · rw [if_neg (nI_nlt (by omega) (by omega)), if_pos c1]; rfl
        · rw [if_pos (nI_lt (by omega) (by omega)), if_neg c1]
          refine ih t (pre ++ [(q, f, s)]) (f + s) (by simpa using hB) (fun x hx => ?_) hr.2.2 (by omega) (by simp at hm; omega)
          rcases List.mem_append.mp hx with h | h
          · have := hp x h; omega
          · simp at h; subst h; show f < f + s; omega
theorem m_room (hT : mT T z nW) (h0 : fi 0 = nI nW) {k : Nat} (hk : 0 < k) (hk2 : k ≤ 3000) {bl : bL} (hB : mB ar nW bl) (hs : srt nW 0 bl) (hfu : 24 < fu) (hfu2 : bl.length < fu) : fX10_room fu (mw T G nx z fi ar) z (nI k) = some (oN (ff nW k 0 bl), mw T G nx z fi ar) :=
  m_room_loop hT h0 hk hk2 hfu fu bl [] 0 hB (fun x hx => by cases hx) hs (by omega) hfu2
theorem m_gaps_loop (hT : mT T z nW) (h0 : fi 0 = nI nW) {x1 : Int32} (hfu : 24 < fu) : ∀ (m : Nat) (rest pre : bL) (a u v t : Nat), mB ar nW (pre ++ rest) → (∀ x ∈ pre, x.2.1 < a) → srt nW a rest → a ≤ 3000 → v ≤ 3000 → rest.length + 1 < m →
    fX10_gaps_10 fu m (mw T G nx z fi ar) z x1 (nI u) (nI v) (nI t) (nI a) = some (if x1 = 0 then nI (u + fsum nW a rest) else if x1 = 1 then nI (fmax nW a rest v) else nI (t + fcnt nW a rest), mw T G nx z fi ar) := by
  have hW := hT.2.1
  intro m
  induction m with
  | zero => intro rest pre a u v t _ _ _ _ _ hm; omega
  | succ m ih =>
    intro rest pre a u v t hB hp hr ha hv hm
    have hle := srt_le hr
    have hn := m_nextFrom (fu := fu) (G := G) (nx := nx) hT h0 hB ha hp hr hfu
    rw [fX10_gaps_10]
    simp +decide only [gI_m hT, h0, rcv_m hT, hn, Option.bind_some, bn2_s, zz_0, zz_1, if_true, if_false, ite_true, ite_false, vI_i, vR_n, vR_r, vR_v, reduceCtorEq]
    by_cases c0 : a = nW
    · subst c0
      rw [if_pos (nI_le (Nat.le_refl _) (by omega))]
      match rest, hr with
      | [], _ =>
        simp only [fsum, fmax, fcnt, Nat.sub_self, Nat.add_zero, Nat.max_zero, Nat.lt_irrefl, if_false]
        split
        · rfl
        · split <;> rfl
      | x :: t, hr => have := hr.1; have := hr.2.1; have := srt_le hr.2.2; omega
    · rw [if_neg (nI_ge (by omega) (by omega))]
      match rest, hB, hr, hm, hn with
      | [], hB, hr, hm, hn =>
        have e1 : ¬ nI nW ≤ nI a := nI_ge (by omega) (by omega)
        simp +decide only [hdC, fX10_gaps_46, fX10_gaps_76, fX10_gaps_98, gI_m hT, h0, Option.bind_some, bn2_s, zz_0, zz_1, if_true, if_false, ite_true, ite_false, vI_i, vR_n, vR_r, vR_v, reduceCtorEq, pk_sub hle, e1, nI_add, nI_ad1, imx_nI (show v < 2 ^ 31 by omega) (show nW - a < 2 ^ 31 by omega)]
        cases m with
        | zero => simp at hm
        | succ m =>
          rw [fX10_gaps_10]
          simp +decide only [gI_m hT, h0, Option.bind_some, bn2_s, zz_0, zz_1, if_true, if_false, ite_true, ite_false, vI_i, vR_n, vR_r, vR_v, reduceCtorEq]
          rw [if_pos (nI_le (Nat.le_refl _) (by omega))]
          simp only [fsum, fmax, fcnt, if_pos (show a < nW by omega)]
          split
          · rfl
          · split <;> rfl
      | (q, f, s) :: r, hB, hr, hm, hn =>
        have hx : (q, f, s) ∈ pre ++ (q, f, s) :: r := by simp
        have hbo := m_beginOf (fu := fu) (G := G) (nx := nx) (fi := fi) hT hB hx
        have hzo := m_sizeOf (fu := fu) (G := G) (nx := nx) (fi := fi) hT hB hx
        have hq := cod_lt (hB.1 _ hx).1
        have hs := srt_le hr.2.2
        have hr1 := hr.1
        have hr2 := hr.2.1
        simp only at hbo hzo hq
        have hq1 : ¬ nI q = (-1 : Int32) := nI_n1 (by omega)
        have hi := fun u v t (hv : v ≤ 3000) => ih r (pre ++ [(q, f, s)]) (f + s) u v t (by simpa using hB) (fun x hx => by
          rcases List.mem_append.mp hx with h | h
          · have := hp x h; omega
          · simp at h; subst h; show f < f + s; omega) hr.2.2 (by omega) hv (by simp at hm; omega)
        simp only [hdC, hq1, rcv_m hT, hbo, fX10_gaps_46, fX10_gaps_76, fX10_gaps_98, pk_sub hr1, hzo, nI_add, nI_ad1, imx_nI (show v < 2 ^ 31 by omega) (show f - a < 2 ^ 31 by omega), Option.bind_some, bn2_s, zz_0, zz_1, if_true, if_false, ite_true, ite_false, vI_i, vR_n, vR_r, vR_v, reduceCtorEq]
        by_cases c1 : a < f
        · rw [if_neg (nI_ge c1 (by omega)), hi _ _ _ (by omega)]
          simp only [fsum, fmax, fcnt, if_pos c1, Nat.add_assoc]
        · rw [if_pos (nI_le (by omega) (by omega)), hi _ _ _ hv]
          have : f - a = 0 := by omega
          simp only [fsum, fmax, fcnt, if_neg c1, this, Nat.zero_add, Nat.max_zero]
theorem m_gaps (hT : mT T z nW) (h0 : fi 0 = nI nW) {x1 : Int32} {bl : bL} (hB : mB ar nW bl) (hs : srt nW 0 bl) (hfu : 24 < fu) (hfu2 : bl.length + 1 < fu) : fX10_gaps fu (mw T G nx z fi ar) z x1 = some (if x1 = 0 then nI (fsum nW 0 bl) else if x1 = 1 then nI (fmax nW 0 bl 0) else nI (fcnt nW 0 bl), mw T G nx z fi ar) := by
  have := m_gaps_loop (fu := fu) (G := G) (nx := nx) hT h0 (x1 := x1) hfu fu bl [] 0 0 0 0 hB (fun x hx => by cases hx) hs (by omega) (by omega) hfu2
  rw [Nat.zero_add, Nat.zero_add] at this
  exact this
end MR
