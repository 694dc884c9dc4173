/-! what holds between two calls: MI of the reference alone, XI of the class beside it -/
def sv (ar : Nat → Nat → Int32) (j : Nat) : Nat → Int32 := fun k => ar 19 (10 * j + (k - 22))
def jv (ar : Nat → Nat → Int32) (ad : Nat → Nat) (j : Nat) : Nat → Value := fun k => match k with
  | 0 => .int (nI j)
  | 1 => .int (ar 6 j)
  | 2 => .ref (ad j)
  | 3 => .ref (ad (100 + j))
  | 4 => .int (ar 7 j)
  | 5 => .int (ar 4 j)
  | 6 => .int (ar 8 j)
  | 7 => .int (ar 12 j)
  | _ => .int (ar 13 j)
def JN (ar : Nat → Nat → Int32) (j : Nat) : Prop := ∃ s n wy p, ar 4 j = nI s ∧ s ≤ 4 ∧ ar 5 j = nI n ∧ n ≤ 1000 ∧ ar 6 j = nI wy ∧ wy ≤ 4 ∧ ar 7 j = nI p ∧ p ≤ 3
def MF (nW nJ st : Nat) (fi : Nat → Int32) : Prop := fi 0 = nI nW ∧ fi 1 = nI nJ ∧ 1 ≤ nJ ∧ nJ ≤ 24 ∧ 8 ≤ nW ∧ nW ≤ 3000 ∧ (∃ qu, fi 2 = nI qu ∧ qu ≤ 200) ∧ fi 16 = nI st
def NZ (ar : Nat → Nat → Int32) : Prop := ∀ q, cod q → ar 4 (jb q) ≠ 0 → (bOf ar q = -1 ↔ zOf ar q = 0)
def QL (ar : Nat → Nat → Int32) (st : Nat) (ql : List Nat) : Prop := ql.Nodup ∧ (∀ j, j ∈ ql ↔ ar 4 j = 2) ∧ ql.Pairwise (aft ar) ∧ (∀ j, ar 4 j = 2 → ∃ s, s < st ∧ ar 11 j = nI s)
def MI (nW nJ st : Nat) (fi : Nat → Int32) (ar : Nat → Nat → Int32) (bl : bL) (ql : List Nat) : Prop :=
  MF nW nJ st fi ∧ (∀ j, nJ ≤ j → ar 4 j = 0) ∧ (∀ j, ar 4 j ≠ 0 → JN ar j) ∧ mB ar nW bl ∧ NZ ar ∧ srt nW 0 bl ∧ QL ar st ql
def XL (T : Nat → Option (Nat × Nat)) (F : Nat → Nat → Value) (c : Nat) (ar : Nat → Nat → Int32) (ad da : Nat → Nat) (i : Nat) : Prop :=
  kd T (ad (200 + i)) = some 4 ∧ c + 21 ≤ ad (200 + i) ∧ da (ad (200 + i)) = 200 + i ∧ (∀ k, k ≤ 8 → F (ad (200 + i)) k = jv ar ad i k) ∧
  (∀ q, q = i ∨ q = 100 + i → kd T (ad q) = some 1 ∧ c + 21 ≤ ad q ∧ da (ad q) = q ∧ F (ad q) 0 = .int (bOf ar q) ∧ F (ad q) 1 = .int (zOf ar q))
def SQ (ar : Nat → Nat → Int32) (w : Nat → Int32) (K : Nat) (gi : Nat → Int32) (j : Nat) : Prop := ∃ wy n bf, ar 6 j = nI wy ∧ wy ≤ 4 ∧ ar 5 j = nI n ∧ n ≤ 1000 ∧ (wy = 2 ∨ wy = 4 → ar 10 j = nI bf ∧ bf ≤ 3000) ∧ K = Kw wy ∧ SR wy K gi (sv ar j) w n bf
def SO (T : Nat → Option (Nat × Nat)) (F : Nat → Nat → Value) (c : Nat) (ar : Nat → Nat → Int32) (ad da : Nat → Nat) (j : Nat) : Prop := ∃ K gi o,
  F (ad (200 + j)) 9 = .ref (ad (300 + j)) ∧ kd T (ad (300 + j)) = some K ∧ (K = 2 ∨ K = 3 ∨ K = 5 ∨ K = 6) ∧ c + 21 ≤ ad (300 + j) ∧ da (ad (300 + j)) = 300 + j ∧ F (ad (300 + j)) = gS c (ad j) (ad (100 + j)) K gi ∧ o ≤ 1 ∧ gi 2 = ar 5 j ∧ gi 3 = nI o ∧ ar 14 j = nI (1 - o) ∧ (o = 0 → SQ ar (ar 3) K gi j)
def XJ (T : Nat → Option (Nat × Nat)) (F : Nat → Nat → Value) (c nJ : Nat) (ar : Nat → Nat → Int32) (ad da : Nat → Nat) (i : Nat) : Prop :=
  (i < nJ → F (c + 4) i = if ar 4 i = 0 then .null else .ref (ad (200 + i))) ∧ (ar 4 i ≠ 0 → XL T F c ar ad da i) ∧ (ar 4 i = 2 → SO T F c ar ad da i)
def ST (T : Nat → Option (Nat × Nat)) (F : Nat → Nat → Value) (c nW nJ : Nat) (fi : Nat → Int32) (w : Nat → Int32) : Prop :=
  xA T F c nW w ∧ kd T c = some 8 ∧ F c 0 = .ref (c + 1) ∧ F c 1 = .ref (c + 4) ∧ F c 2 = .ref (c + 5) ∧ F c 3 = .int (fi 2) ∧ F c 4 = .int (fi 15) ∧ F c 5 = .int (fi 17) ∧ F (c + 3) 0 = .int 0 ∧ F (c + 3) 1 = .int 0 ∧ kd T (c + 4) = some 12 ∧ ln T (c + 4) = nJ ∧ kd T (c + 5) = some 7
def aj (ad : Nat → Nat) (j : Nat) : Nat := ad (200 + j)
def XI (T : Nat → Option (Nat × Nat)) (F : Nat → Nat → Value) (nx c nW nJ : Nat) (fi : Nat → Int32) (ar : Nat → Nat → Int32) (ad da : Nat → Nat) (bl : bL) (ql : List Nat) : Prop :=
  ST T F c nW nJ fi (ar 3) ∧ bch T F (c + 3) (bl.map (am ad)) ∧ jch T F (F (c + 5) 0) (ql.map (aj ad)) ∧ (∀ i, XJ T F c nJ ar ad da i) ∧ (∀ q, nx ≤ q → T q = none) ∧ c + 21 ≤ nx
def INV (T : Nat → Option (Nat × Nat)) (F : Nat → Nat → Value) (nx c nW nJ st : Nat) (fi : Nat → Int32) (ar : Nat → Nat → Int32) (ad da : Nat → Nat) (bl : bL) (ql : List Nat) : Prop :=
  mT T (c + 6) nW ∧ mF F (c + 6) fi ar = F ∧ MI nW nJ st fi ar bl ql ∧ XI T F nx c nW nJ fi ar ad da bl ql
section IV
variable {T T' : Nat → Option (Nat × Nat)} {F F' : Nat → Nat → Value} {nx nx' c nW nJ st i j : Nat} {fi fi' : Nat → Int32} {ar ar' : Nat → Nat → Int32} {ad ad' da da' : Nat → Nat} {bl bl' : bL} {ql ql' : List Nat}
theorem jv_c (ha : ∀ k, 4 ≤ k → k ≤ 14 → ar' k i = ar k i) (h0 : ad' i = ad i) (h1 : ad' (100 + i) = ad (100 + i)) (k : Nat) : jv ar' ad' i k = jv ar ad i k := by
  unfold jv
  rw [ha 6 (by omega) (by omega), ha 7 (by omega) (by omega), ha 4 (by omega) (by omega), ha 8 (by omega) (by omega), ha 12 (by omega) (by omega), ha 13 (by omega) (by omega), h0, h1]
theorem bOf_c (hi : i < 24) (ha : ∀ k, 4 ≤ k → k ≤ 14 → ar' k i = ar k i) {q : Nat} (hq : q = i ∨ q = 100 + i) : bOf ar' q = bOf ar q ∧ zOf ar' q = zOf ar q := by
  rcases hq with rfl | rfl
  · rw [bOf_j _ hi, bOf_j _ hi, zOf_j _ hi, zOf_j _ hi]; exact ⟨ha 9 (by omega) (by omega), ha 5 (by omega) (by omega)⟩
  · rw [bOf_1, bOf_1, zOf_1, zOf_1]; unfold bsz
    exact ⟨ha 10 (by omega) (by omega), by rw [ha 6 (by omega) (by omega), ha 5 (by omega) (by omega)]⟩
theorem SQ.cg {w w' : Nat → Int32} {K : Nat} {gi : Nat → Int32} (h : SQ ar w K gi i) (ha : ∀ k, 4 ≤ k → k ≤ 14 → ar' k i = ar k i) (h19 : ∀ t, t < 10 → ar' 19 (10 * i + t) = ar 19 (10 * i + t)) (hw : ar 6 i = 4 → ∀ bf, bf ≤ 3000 → ar 10 i = nI bf → ∀ t, t < 24 → w' (bf + t) = w (bf + t)) : SQ ar' w' K gi i := by
  obtain ⟨wy, n, bf, h1, h2, h3, h4, h5, hK, h6⟩ := h
  refine ⟨wy, n, bf, by rw [ha 6 (by omega) (by omega)]; exact h1, h2, by rw [ha 5 (by omega) (by omega)]; exact h3, h4, fun z => by rw [ha 10 (by omega) (by omega)]; exact h5 z, hK, ?_⟩
  refine (h6.w (w' := w') (bf' := bf) (fun e t ht => ?_)).fi (fun k k1 k2 => h19 _ (by omega))
  exact hw (by rw [h1, e]; rfl) bf (h5 (Or.inr e)).2 (h5 (Or.inr e)).1 t ht
theorem XL.cg (h : XL T F c ar ad da i) (hi : i < 24) (hT : ∀ q k, kd T q = some k → kd T' q = some k) (ha : ∀ k, 4 ≤ k → k ≤ 14 → ar' k i = ar k i) (had : ∀ m, m ≤ 2 → ad' (100 * m + i) = ad (100 * m + i)) (hda : ∀ m, m ≤ 2 → da' (ad (100 * m + i)) = da (ad (100 * m + i))) (hj : ∀ k, k ≤ 8 → F' (ad (200 + i)) k = F (ad (200 + i)) k) (hb : ∀ q, q = i ∨ q = 100 + i → ∀ k, k ≤ 1 → F' (ad q) k = F (ad q) k) : XL T' F' c ar' ad' da' i := by
  obtain ⟨h1, h2, h3, h4, h5⟩ := h
  have a0 : ad' i = ad i := by simpa using had 0 (by omega)
  have a1 : ad' (100 + i) = ad (100 + i) := had 1 (by omega)
  have a2 : ad' (200 + i) = ad (200 + i) := had 2 (by omega)
  have d0 : da' (ad i) = da (ad i) := by simpa using hda 0 (by omega)
  have d1 : da' (ad (100 + i)) = da (ad (100 + i)) := hda 1 (by omega)
  have d2 : da' (ad (200 + i)) = da (ad (200 + i)) := hda 2 (by omega)
  refine ⟨by rw [a2]; exact hT _ _ h1, by rw [a2]; exact h2, by rw [a2, d2]; exact h3, fun k hk => by rw [a2, jv_c ha a0 a1, hj k hk]; exact h4 k hk, fun q hq => ?_⟩
  obtain ⟨b1, b2, b3, b4, b5⟩ := h5 q hq
  have aq : ad' q = ad q := by rcases hq with rfl | rfl <;> assumption
  have dq : da' (ad q) = da (ad q) := by rcases hq with rfl | rfl <;> assumption
  obtain ⟨e1, e2⟩ := bOf_c (ar := ar) (ar' := ar') hi ha hq
  exact ⟨by rw [aq]; exact hT _ _ b1, by rw [aq]; exact b2, by rw [aq, dq]; exact b3, by rw [aq, e1, hb q hq 0 (by omega)]; exact b4, by rw [aq, e2, hb q hq 1 (by omega)]; exact b5⟩
theorem SO.cg (h : SO T F c ar ad da i) (hT : ∀ q k, kd T q = some k → kd T' q = some k) (ha : ∀ k, 4 ≤ k → k ≤ 14 → ar' k i = ar k i) (h19 : ∀ t, t < 10 → ar' 19 (10 * i + t) = ar 19 (10 * i + t)) (had : ∀ m, m ≤ 3 → ad' (100 * m + i) = ad (100 * m + i)) (hda : da' (ad (300 + i)) = da (ad (300 + i))) (hj : F' (ad (200 + i)) 9 = F (ad (200 + i)) 9) (hs : F' (ad (300 + i)) = F (ad (300 + i))) (hw : ar 6 i = 4 → ∀ bf, bf ≤ 3000 → ar 10 i = nI bf → ∀ t, t < 24 → ar' 3 (bf + t) = ar 3 (bf + t)) : SO T' F' c ar' ad' da' i := by
  obtain ⟨K, gi, o, h1, h2, h3, h4, h5, h6, h7, h8, h9, h10, h11⟩ := h
  have a0 : ad' i = ad i := by simpa using had 0 (by omega)
  have a1 : ad' (100 + i) = ad (100 + i) := had 1 (by omega)
  have a2 : ad' (200 + i) = ad (200 + i) := had 2 (by omega)
  have a3 : ad' (300 + i) = ad (300 + i) := had 3 (by omega)
  exact ⟨K, gi, o, by rw [a2, a3, hj]; exact h1, by rw [a3]; exact hT _ _ h2, h3, by rw [a3]; exact h4, by rw [a3, hda]; exact h5, by rw [a3, a0, a1, hs]; exact h6, h7, by rw [ha 5 (by omega) (by omega)]; exact h8, h9, by rw [ha 14 (by omega) (by omega)]; exact h10, fun z => (h11 z).cg ha h19 hw⟩
theorem XJ.cg (h : XJ T F c nJ ar ad da i) (hi : ar 4 i ≠ 0 → i < 24) (hT : ∀ q k, kd T q = some k → kd T' q = some k) (h4 : F' (c + 4) i = F (c + 4) i) (ha : ∀ k, 4 ≤ k → k ≤ 14 → ar' k i = ar k i) (h19 : ∀ t, t < 10 → ar' 19 (10 * i + t) = ar 19 (10 * i + t)) (had : ∀ m, m ≤ 3 → ad' (100 * m + i) = ad (100 * m + i)) (hda : ar 4 i ≠ 0 → ∀ m, m ≤ 2 → da' (ad (100 * m + i)) = da (ad (100 * m + i))) (hda3 : ar 4 i = 2 → da' (ad (300 + i)) = da (ad (300 + i))) (hj : ar 4 i ≠ 0 → ∀ k, k ≤ 9 → F' (ad (200 + i)) k = F (ad (200 + i)) k) (hb : ar 4 i ≠ 0 → ∀ q, q = i ∨ q = 100 + i → ∀ k, k ≤ 1 → F' (ad q) k = F (ad q) k) (hs : ar 4 i = 2 → F' (ad (300 + i)) = F (ad (300 + i))) (hw : ar 4 i = 2 → ar 6 i = 4 → ∀ bf, bf ≤ 3000 → ar 10 i = nI bf → ∀ t, t < 24 → ar' 3 (bf + t) = ar 3 (bf + t)) : XJ T' F' c nJ ar' ad' da' i := by
  have e4 := ha 4 (by omega) (by omega)
  have a2 : ad' (200 + i) = ad (200 + i) := had 2 (by omega)
  refine ⟨fun z => by rw [h4, e4, a2]; exact h.1 z, fun z => ?_, fun z => ?_⟩
  · rw [e4] at z
    exact (h.2.1 z).cg (hi z) hT ha (fun m hm => had m (by omega)) (hda z) (fun k hk => hj z k (by omega)) (hb z)
  · rw [e4] at z
    have z2 : ar 4 i ≠ 0 := by rw [z]; decide
    exact (h.2.2 z).cg hT ha h19 had (hda3 z) (hj z2 9 (by omega)) (hs z) (hw z)
theorem MI.lt (h : MI nW nJ st fi ar bl ql) (hl : ar 4 i ≠ 0) : i < nJ := by
  by_cases c : i < nJ
  · exact c
  · exact absurd (h.2.1 i (by omega)) hl
theorem MI.lt24 (h : MI nW nJ st fi ar bl ql) (hl : ar 4 i ≠ 0) : i < 24 := by
  have := h.lt hl
  have := h.1.2.2.2.1
  omega
theorem XI.bk (h : XI T F nx c nW nJ fi ar ad da bl ql) {q : Nat} (hq : cod q) (hl : ar 4 (jb q) ≠ 0) : kd T (ad q) = some 1 ∧ c + 21 ≤ ad q ∧ da (ad q) = q ∧ F (ad q) 0 = .int (bOf ar q) ∧ F (ad q) 1 = .int (zOf ar q) := by
  refine ((h.2.2.2.1 (jb q)).2.1 hl).2.2.2.2 q ?_
  rcases cod_cs hq with e | e
  · exact Or.inl e.1
  · exact Or.inr e.1
theorem XI.bls (h : XI T F nx c nW nJ fi ar ad da bl ql) (hB : mB ar nW bl) : ∀ q ∈ (bl.map (am ad)).map (fun x => x.1), kd T q = some 1 ∧ c + 21 ≤ q := fun q hq => by
  rw [am_fst, List.mem_map] at hq
  obtain ⟨q', hq', rfl⟩ := hq
  obtain ⟨x, hx, rfl⟩ := List.mem_map.mp hq'
  obtain ⟨a1, a2, _⟩ := hB.1 x hx
  have := h.bk a1 a2
  exact ⟨this.1, this.2.1⟩
theorem XI.qj (h : XI T F nx c nW nJ fi ar ad da bl ql) (hQ : QL ar st ql) : ∀ q ∈ ql.map (aj ad), kd T q = some 4 ∧ c + 21 ≤ q := fun q hq => by
  obtain ⟨j, hj, rfl⟩ := List.mem_map.mp hq
  have h2 := (hQ.2.1 j).mp hj
  have := (h.2.2.2.1 j).2.1 (by rw [h2]; decide)
  exact ⟨this.1, this.2.1⟩
/-- only what lies outside of the reference counts -/
theorem XI.fr (h : XI T F nx c nW nJ fi ar ad da bl ql) (hM : MI nW nJ st fi' ar bl ql) (hF : ∀ q, (q < c + 6 ∨ c + 21 ≤ q) → F' q = F q) : XI T F' nx c nW nJ fi ar ad da bl ql := by
  have hbl := h.bls hM.2.2.2.1
  have hqj := h.qj hM.2.2.2.2.2.2
  obtain ⟨⟨⟨x1, x2, x3, x4, x5, x6, x7, x8⟩, s2, s3, s4, s5, s6, s7, s8, s9, s10, s11, s12, s13⟩, h2, h3, h4, h5, h6⟩ := h
  have e0 := hF c (by omega)
  have e1 := hF (c + 1) (by omega)
  have e2 := hF (c + 2) (by omega)
  have e3 := hF (c + 3) (by omega)
  have e4 := hF (c + 4) (by omega)
  have e5 := hF (c + 5) (by omega)
  refine ⟨⟨⟨x1, x2, x3, x4, x5, by rw [e1]; exact x6, by rw [e1]; exact x7, by rw [e2]; exact x8⟩, s2, by rw [e0]; exact s3, by rw [e0]; exact s4, by rw [e0]; exact s5, by rw [e0]; exact s6, by rw [e0]; exact s7, by rw [e0]; exact s8, by rw [e3]; exact s9, by rw [e3]; exact s10, s11, s12, s13⟩, ?_, ?_, fun i => ?_, h5, h6⟩
  · exact bch_congr h2 (by rw [e3]) (fun q hq f _ => by rw [hF q (Or.inr (hbl q hq).2)])
  · rw [e5]; exact jch_congr h3 (fun q hq => by rw [hF q (Or.inr (hqj q hq).2)])
  · have hx := h4 i
    refine hx.cg (fun z => hM.lt24 z) (fun _ _ z => z) (by rw [e4]) (fun _ _ _ => rfl) (fun _ _ => rfl) (fun _ _ => rfl) (fun _ _ _ => rfl) (fun _ => rfl) (fun z k _ => ?_) (fun z q hq k _ => ?_) (fun z => ?_) (fun _ _ _ _ _ _ _ => rfl)
    · rw [hF _ (Or.inr (hx.2.1 z).2.1)]
    · rw [hF _ (Or.inr ((hx.2.1 z).2.2.2.2 q hq).2.1)]
    · obtain ⟨K, gi, o, _, _, _, g, _⟩ := hx.2.2 z
      exact hF _ (Or.inr g)
theorem mF_mF (fi fi' : Nat → Int32) (ar ar' : Nat → Nat → Int32) (z : Nat) : mF (mF F z fi ar) z fi' ar' = mF F z fi' ar' := by
  funext q
  simp only [mF]
  split
  · rfl
  · split <;> rfl
theorem mF_out {z q : Nat} (h : q < z ∨ z + 15 ≤ q) : mF F z fi ar q = F q := by
  simp only [mF]
  rw [if_neg (by omega), if_neg (by omega)]
theorem mF_keep {z : Nat} (h : mF F z fi ar = F) (hF : ∀ q, z ≤ q → q < z + 15 → F' q = F q) : mF F' z fi ar = F' := by
  funext q
  by_cases c : z ≤ q ∧ q < z + 15
  · have e1 : mF F' z fi ar q = mF F z fi ar q := by
      simp only [mF]
      by_cases c1 : q = z
      · simp [c1]
      · rw [if_neg c1, if_neg c1, if_pos (by omega), if_pos (by omega)]
    rw [e1, h, hF q c.1 c.2]
  · exact mF_out (by omega)
/-- both halves of a call make one -/
theorem INV.mk (hT : mT T (c + 6) nW) (hM : MI nW nJ st fi ar bl ql) (hX : XI T F nx c nW nJ fi ar ad da bl ql) : INV T (mF F (c + 6) fi ar) nx c nW nJ st fi ar ad da bl ql :=
  ⟨hT, mF_mF _ _ _ _ _, hM, hX.fr hM (fun q hq => mF_out (by omega))⟩
end IV
