/-! packing in the reference -/
def aw (ar : Nat → Nat → Int32) (w : Nat → Int32) : Nat → Nat → Int32 := fun k => if k = 3 then w else ar k
theorem aw_3 (ar : Nat → Nat → Int32) (w : Nat → Int32) : aw ar w 3 = w := by simp [aw]
theorem aw_n (ar : Nat → Nat → Int32) (w : Nat → Int32) {k : Nat} (h : k ≠ 3) : aw ar w k = ar k := by simp [aw, h]
theorem aw_self (ar : Nat → Nat → Int32) : aw ar (ar 3) = ar := by
  funext k; by_cases h : k = 3
  · subst h; rw [aw_3]
  · rw [aw_n _ _ h]
theorem aw_aw (ar : Nat → Nat → Int32) (w w' : Nat → Int32) : aw (aw ar w) w' = aw ar w' := by
  funext k; by_cases h : k = 3
  · subst h; rw [aw_3, aw_3]
  · rw [aw_n _ _ h, aw_n _ _ h, aw_n _ _ h]
theorem ua_aw (ar : Nat → Nat → Int32) (w : Nat → Int32) (i : Nat) (x : Int32) : ua (aw ar w) 3 i x = aw ar (upd w i x) := by
  funext k j
  by_cases h : k = 3
  · subst h; rw [aw_3]; simp [ua, upd, aw_3]
  · rw [aw_n _ _ h]; simp [ua, h, aw_n]
theorem ua_3 (ar : Nat → Nat → Int32) (i : Nat) (x : Int32) : ua ar 3 i x = aw ar (upd (ar 3) i x) := by
  have := ua_aw ar (ar 3) i x
  rw [aw_self] at this
  exact this
theorem cpy_0 (w : Nat → Int32) (f t : Nat) : va_cpy w w f t 0 = w := by
  funext q; simp only [va_cpy]; rw [if_neg (by omega)]
theorem cpy_s (w : Nat → Int32) {f t i : Nat} (h : t ≤ f) : upd (va_cpy w w f t i) (t + i) (va_cpy w w f t i (f + i)) = va_cpy w w f t (i + 1) := by
  funext q
  simp only [upd, va_cpy]
  by_cases e : q = t + i
  · subst e
    rw [if_pos rfl, if_neg (by omega), if_pos (by omega), show f + (t + i - t) = f + i by omega]
  · rw [if_neg e]
    by_cases e2 : t ≤ q ∧ q < t + i
    · rw [if_pos e2, if_pos (by omega)]
    · rw [if_neg e2, if_neg (by omega)]
/-- the begin of block q is e -/
def sB (ar : Nat → Nat → Int32) (q : Nat) (e : Int32) : Nat → Nat → Int32 := if q < 100 then ua ar 9 q e else ua ar 10 (q - 100) e
theorem sB_o (ar : Nat → Nat → Int32) (q : Nat) (e : Int32) {k : Nat} (h1 : k ≠ 9) (h2 : k ≠ 10) : sB ar q e k = ar k := by
  funext j
  unfold sB
  split <;> simp [ua, h1, h2]
theorem sB_s (ar : Nat → Nat → Int32) (q : Nat) (e : Int32) : bOf (sB ar q e) q = e := by
  unfold bOf sB
  by_cases h : q < 100
  · simp [h, ua]
  · simp [h, ua]
theorem sB_n (ar : Nat → Nat → Int32) {q q' : Nat} (e : Int32) (h : q' ≠ q) (h1 : cod q) (h2 : cod q') : bOf (sB ar q e) q' = bOf ar q' := by
  unfold bOf sB
  unfold cod at h1 h2
  by_cases c1 : q < 100 <;> by_cases c2 : q' < 100
  · simp [c1, c2, ua, h]
  · simp [c1, c2, ua]
  · simp [c1, c2, ua]
  · have : q' - 100 ≠ q - 100 := by omega
    simp [c1, c2, ua, this]
theorem bOf_aw (ar : Nat → Nat → Int32) (w : Nat → Int32) (q : Nat) : bOf (aw ar w) q = bOf ar q := by
  unfold bOf; rw [aw_n _ _ (by decide), aw_n _ _ (by decide)]
theorem bsz_c {ar ar' : Nat → Nat → Int32} (h5 : ar' 5 = ar 5) (h6 : ar' 6 = ar 6) (j : Nat) : bsz ar' j = bsz ar j := by unfold bsz; rw [h5, h6]
theorem zOf_c {ar ar' : Nat → Nat → Int32} (h5 : ar' 5 = ar 5) (h6 : ar' 6 = ar 6) (q : Nat) : zOf ar' q = zOf ar q := by unfold zOf; rw [h5, bsz_c h5 h6]
theorem mB_congr {ar ar' : Nat → Nat → Int32} {nW : Nat} {bl : bL} (h : mB ar nW bl) (h4 : ar' 4 = ar 4) (h5 : ar' 5 = ar 5) (h6 : ar' 6 = ar 6) (h9 : ar' 9 = ar 9) (h10 : ar' 10 = ar 10) : mB ar' nW bl := by
  have hb : ∀ q, bOf ar' q = bOf ar q := fun q => by unfold bOf; rw [h9, h10]
  exact ⟨fun x hx => by rw [h4, hb, zOf_c h5 h6]; exact h.1 x hx, fun q h1 h2 => by rw [hb]; rw [h4] at h2; exact h.2 q h1 h2⟩
theorem mB_move {ar : Nat → Nat → Int32} {nW : Nat} {pre t : bL} {q f s e : Nat} (hB : mB ar nW (pre ++ (q, f, s) :: t)) (hW : nW ≤ 3000) (hu : ∀ x ∈ pre ++ t, x.2.1 ≠ f) (he : e ≤ f) : mB (sB ar q (nI e)) nW (pre ++ (q, e, s) :: t) := by
  have hx : (q, f, s) ∈ pre ++ (q, f, s) :: t := by simp
  obtain ⟨g1, g2, g3, g4, g5, g6⟩ := hB.1 _ hx
  simp only at g1 g2 g3 g4 g5 g6
  have hz : ∀ q', zOf (sB ar q (nI e)) q' = zOf ar q' := fun q' => zOf_c (sB_o ar q _ (by decide) (by decide)) (sB_o ar q _ (by decide) (by decide)) q'
  have h4 := sB_o ar q (nI e) (k := 4) (by decide) (by decide)
  refine ⟨fun x hx' => ?_, fun q' h1 h2 => ?_⟩
  · rw [h4, hz]
    by_cases ex : x = (q, e, s)
    · subst ex
      exact ⟨g1, g2, sB_s _ _ _, g4, by show e + s ≤ nW; omega, g6⟩
    · have hm : x ∈ pre ++ t := by
        rcases List.mem_append.mp hx' with h | h
        · exact List.mem_append_left _ h
        · rcases List.mem_cons.mp h with h | h
          · exact absurd h ex
          · exact List.mem_append_right _ h
      have hm2 : x ∈ pre ++ (q, f, s) :: t := by
        rcases List.mem_append.mp hm with h | h
        · exact List.mem_append_left _ h
        · exact List.mem_append_right _ (List.mem_cons_of_mem _ h)
      obtain ⟨i1, i2, i3, i4, i5, i6⟩ := hB.1 x hm2
      have hne : x.1 ≠ q := fun ez => by
        rw [ez, g3] at i3
        have := (nI_eq (by omega) (by omega)).mp i3
        exact hu x hm this.symm
      rw [sB_n ar _ hne g1 i1]
      exact ⟨i1, i2, i3, i4, i5, i6⟩
  · rw [h4] at h2
    by_cases ez : q' = q
    · subst ez
      exact Or.inr ⟨e, s, by simp⟩
    · rw [sB_n ar _ ez g1 h1]
      rcases hB.2 q' h1 h2 with h | ⟨f', s', h⟩
      · exact Or.inl h
      · refine Or.inr ⟨f', s', ?_⟩
        rcases List.mem_append.mp h with h | h
        · exact List.mem_append_left _ h
        · rcases List.mem_cons.mp h with h | h
          · cases h; exact absurd rfl ez
          · exact List.mem_append_right _ (List.mem_cons_of_mem _ h)
section MP
variable {T : Nat → Option (Nat × Nat)} {G : Nat → Nat → Value} {nx z nW fu : Nat} {fi : Nat → Int32} {ar : Nat → Nat → Int32}
theorem m_pcopy (hT : mT T z nW) {k10 : hS → Nat → Int32 → Int32 → Int32 → Option (Int32 × hS)} {x2 x3 : Int32} {w : Nat → Int32} {e f s : Nat} (he : e < f) (hf : f + s ≤ nW) : ∀ (m i : Nat), i ≤ s → s - i < m →
    fX10_pack_32 fu k10 m (mw T G nx z fi (aw ar (va_cpy w w f e i))) z (nI e) x2 x3 (nI f) (nI s) (nI i) = fX10_pack_70 fu k10 (mw T G nx z fi (aw ar (va_cpy w w f e s))) z (nI e) x2 x3 (nI f) (nI s) := by
  have hW := hT.2.1
  intro m
  induction m with
  | zero => intro i h1 h2; omega
  | succ m ih =>
    intro i h1 h2
    rw [fX10_pack_32]
    by_cases c : i = s
    · subst c
      rw [if_pos (nI_le (Nat.le_refl _) (by omega))]
    · rw [if_neg (nI_ge (by omega) (by omega)), if_neg (fun z => by have := (nI_eq (by omega) (by omega)).mp z; omega)]
      have i1 : f + i < nW := by omega
      have i2 : e + i < nW := by omega
      simp +decide only [gR_m hT, nI_add, aI_3 hT, sV_3 hT, i1, i2, aw_3, ua_aw, cpy_s w (show e ≤ f by omega), nI_ad1, Option.bind_some, bn2_s, zz_0, zz_1, if_true, if_false, ite_true, ite_false, vI_i, vR_n, vR_r, vR_v, reduceCtorEq]
      exact ih (i + 1) (by omega) (by omega)
theorem m_pack_loop (hT : mT T z nW) (h0 : fi 0 = nI nW) (hfu : 24 < fu) (hfu2 : 3000 < fu) : ∀ (m : Nat) (rest pre : bL) (a e mv : Nat) (ar : Nat → Nat → Int32), mB ar nW (pre ++ rest) → (∀ x ∈ pre, x.2.1 < a) → srt nW a rest → e ≤ a → rest.length < m →
    ∃ ar', fX10_pack_10 fu m (mw T G nx z fi ar) z (nI e) (nI mv) (hdC rest) = some (nI (mv + pkN e rest), mw T G nx z fi ar') ∧ mB ar' nW (pre ++ pkL e rest) ∧ ar' 3 = pkW e rest (ar 3) ∧ (∀ k, k ≠ 3 → k ≠ 9 → k ≠ 10 → ar' k = ar k) ∧ (∀ q, cod q → q ∉ rest.map (fun x => x.1) → bOf ar' q = bOf ar q) := by
  have hW := hT.2.1
  intro m
  induction m with
  | zero => intro rest pre a e mv ar _ _ _ _ hm; omega
  | succ m ih =>
    intro rest pre a e mv ar hB hp hr hea hm
    match rest, hB, hr, hm with
    | [], hB, hr, hm =>
      refine ⟨ar, ?_, hB, rfl, fun _ _ _ _ => rfl, fun _ _ _ => rfl⟩
      rw [fX10_pack_10]
      simp only [hdC, pkN, Nat.add_zero, Option.bind_some, bn2_s, zz_0, zz_1, if_true, if_false, ite_true, ite_false, vI_i, vR_n, vR_r, vR_v, reduceCtorEq]
    | (q, f, s) :: t, hB, hr, hm =>
      have hx : (q, f, s) ∈ pre ++ (q, f, s) :: t := by simp
      have hbo := m_beginOf (fu := fu) (G := G) (nx := nx) (fi := fi) hT hB hx
      have hzo := m_sizeOf (fu := fu) (G := G) (nx := nx) (fi := fi) hT hB hx
      have hcq := (hB.1 _ hx).1
      have hq := cod_lt hcq
      have hs := srt_le hr.2.2
      have hr1 := hr.1
      have hr2 := hr.2.1
      simp only at hbo hzo hq hcq
      have hq1 : ¬ nI q = (-1 : Int32) := nI_n1 (by omega)
      have hu : ∀ x ∈ pre ++ t, x.2.1 ≠ f := fun x hx => by
        rcases List.mem_append.mp hx with h | h
        · have := hp x h; omega
        · have := (srt_mem hr.2.2 x h).1; omega
      generalize hw : (if f = e then ar 3 else va_cpy (ar 3) (ar 3) f e s) = w'
      have hB2 : mB (sB (aw ar w') q (nI e)) nW (pre ++ (q, e, s) :: t) := mB_move (mB_congr hB (aw_n _ _ (by decide)) (aw_n _ _ (by decide)) (aw_n _ _ (by decide)) (aw_n _ _ (by decide)) (aw_n _ _ (by decide))) hW hu (by omega)
      have hB3 : mB (sB (aw ar w') q (nI e)) nW ((pre ++ [(q, e, s)]) ++ t) := by simpa using hB2
      have hp3 : ∀ x ∈ pre ++ [(q, e, s)], x.2.1 < f + s := fun x hx => by
        rcases List.mem_append.mp hx with h | h
        · have := hp x h; omega
        · simp at h; subst h; show e < f + s; omega
      have hn := m_nextFrom (fu := fu) (G := G) (nx := nx) hT h0 hB3 (a := f + s) (by omega) hp3 hr.2.2 hfu
      obtain ⟨ar', j1, j2, j3, j4, j5⟩ := ih t (pre ++ [(q, e, s)]) (f + s) (e + s) (mv + (if f = e then 0 else s)) _ hB3 hp3 hr.2.2 (by omega) (by simp at hm; omega)
      have h107 : ∀ mv', fX10_pack_81 fu (fX10_pack_10 fu m) (mw T G nx z fi (aw ar w')) z (nI e) mv' (nI q) (nI f) (nI s) = fX10_pack_10 fu m (mw T G nx z fi (sB (aw ar w') q (nI e))) z (nI (e + s)) mv' (hdC t) := by
        intro mv'
        by_cases c : q < 100
        · have hj : q < 24 := by unfold cod at hcq; omega
          have c2 : nI q < (100 : Int32) := nI_lt (b := 100) c (by omega)
          have e1 : ua (aw ar w') 9 q (nI e) = sB (aw ar w') q (nI e) := by unfold sB; rw [if_pos c]
          simp +decide only [fX10_pack_81, fX10_pack_107, c2, gR_m hT, sV_24 hT, hj, e1, rcv_m hT, nI_add, hn, Option.bind_some, bn2_s, zz_0, zz_1, if_true, if_false, ite_true, ite_false, vI_i, vR_n, vR_r, vR_v, reduceCtorEq]
        · have hj : q - 100 < 24 := by unfold cod at hcq; omega
          have c2 : ¬ nI q < (100 : Int32) := nI_nlt (b := 100) (by omega) (by omega)
          have h7 : nI q - (100 : Int32) = nI (q - 100) := pk_sub (b := 100) (by omega)
          have e1 : ua (aw ar w') 10 (q - 100) (nI e) = sB (aw ar w') q (nI e) := by unfold sB; rw [if_neg c]
          simp +decide only [fX10_pack_81, fX10_pack_107, c2, h7, gR_m hT, sV_24 hT, hj, e1, rcv_m hT, nI_add, hn, Option.bind_some, bn2_s, zz_0, zz_1, if_true, if_false, ite_true, ite_false, vI_i, vR_n, vR_r, vR_v, reduceCtorEq]
      refine ⟨ar', ?_, by simp only [pkL]; simpa using j2, ?_, fun k h1 h2 h3 => ?_, fun q' h1 h2 => ?_⟩
      · rw [fX10_pack_10]
        simp only [hdC, hq1, rcv_m hT, hbo, hzo, Option.bind_some, bn2_s, zz_0, zz_1, if_true, if_false, ite_true, ite_false, vI_i, vR_n, vR_r, vR_v, reduceCtorEq]
        rw [show (0 : Int32) = nI 0 from rfl]
        by_cases c : f = e
        · subst c
          rw [if_pos rfl] at hw
          have ew : aw ar w' = ar := by rw [← hw, aw_self]
          rw [ew] at h107 j1
          have : fX10_pack_32 fu (fX10_pack_10 fu m) fu (mw T G nx z fi ar) z (nI f) (nI mv) (nI q) (nI f) (nI s) (nI 0) = fX10_pack_70 fu (fX10_pack_10 fu m) (mw T G nx z fi ar) z (nI f) (nI mv) (nI q) (nI f) (nI s) := by
            obtain ⟨fu', rfl⟩ : ∃ fu', fu = fu' + 1 := ⟨fu - 1, by omega⟩
            rw [fX10_pack_32]
            simp only [if_true, ite_self]
          rw [this]
          simp only [fX10_pack_70, if_true, h107]
          simp only [if_true, Nat.add_zero] at j1
          rw [j1]
          simp [pkN]
        · rw [if_neg c] at hw
          have hpc := m_pcopy (fu := fu) (G := G) (nx := nx) (fi := fi) (ar := ar) (k10 := fX10_pack_10 fu m) (x2 := nI mv) (x3 := nI q) (w := ar 3) hT (e := e) (f := f) (s := s) (by omega) (by omega) fu 0 (by omega) (by omega)
          rw [cpy_0, aw_self, hw] at hpc
          rw [hpc]
          simp only [fX10_pack_70]
          rw [if_neg (fun z => c ((nI_eq (by omega) (by omega)).mp z)), nI_add, h107]
          rw [if_neg c] at j1
          rw [j1]
          simp only [pkN, if_neg c, Nat.add_assoc]
      · rw [j3, sB_o _ _ _ (by decide) (by decide), aw_3, ← hw]
        rfl
      · rw [j4 k h1 h2 h3, sB_o _ _ _ h2 h3, aw_n _ _ h1]
      · have hne : q' ≠ q := fun ez => h2 (by simp [ez])
        rw [j5 q' h1 (fun z => h2 (by simp at z ⊢; exact Or.inr z)), sB_n _ _ hne hcq h1, bOf_aw]
theorem m_pack (hT : mT T z nW) (h0 : fi 0 = nI nW) {bl : bL} (hB : mB ar nW bl) (hs : srt nW 0 bl) (hfu : 3000 < fu) (hfu2 : bl.length < fu) :
    ∃ ar', fX10_pack fu (mw T G nx z fi ar) z = some (nI (pkN 0 bl), mw T G nx z fi ar') ∧ mB ar' nW (pkL 0 bl) ∧ ar' 3 = pkW 0 bl (ar 3) ∧ (∀ k, k ≠ 3 → k ≠ 9 → k ≠ 10 → ar' k = ar k) ∧ (∀ q, cod q → q ∉ bl.map (fun x => x.1) → bOf ar' q = bOf ar q) := by
  obtain ⟨ar', j1, j2⟩ := m_pack_loop (fu := fu) (G := G) (nx := nx) hT h0 (by omega) hfu fu bl [] 0 0 0 ar hB (fun x hx => by cases hx) hs (by omega) hfu2
  refine ⟨ar', ?_, j2⟩
  have hn := m_nextFrom (fu := fu) (G := G) (nx := nx) hT h0 (pre := []) hB (a := 0) (by omega) (fun x hx => by cases hx) hs (by omega)
  simp only [fX10_pack, rcv_m hT, show (0 : Int32) = nI 0 from rfl, hn, Option.bind_some, bn2_s, zz_0, zz_1, if_true, if_false, ite_true, ite_false, vI_i, vR_n, vR_r, vR_v, reduceCtorEq]
  rw [j1, Nat.zero_add]
end MP
