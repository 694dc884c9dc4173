def OUT (c nW nJ st' : Nat) (S : hS) : Prop := ∃ T F nx fi ar ad da bl ql st2, st2 ≤ st' ∧ S = mkS T F nx ∧ INV T F nx c nW nJ st2 fi ar ad da bl ql
theorem OUT.same {T : Nat → Option (Nat × Nat)} {F : Nat → Nat → Value} {nx c nW nJ st st' : Nat} {fi : Nat → Int32} {ar : Nat → Nat → Int32} {ad da : Nat → Nat} {bl : bL} {ql : List Nat} (h : INV T F nx c nW nJ st fi ar ad da bl ql) (hs : st ≤ st') : OUT c nW nJ st' (mkS T F nx) := ⟨T, F, nx, fi, ar, ad, da, bl, ql, st, hs, rfl, h⟩
theorem bch_T {T T' : Nat → Option (Nat × Nat)} {F : Nat → Nat → Value} (hT : ∀ q k, kd T q = some k → kd T' q = some k) : ∀ {l : bL} {a : Nat}, bch T F a l → bch T' F a l
  | [], _, h => h
  | (b, f, s) :: r, a, h => ⟨h.1, hT _ _ h.2.1, h.2.2.1, h.2.2.2.1, bch_T hT h.2.2.2.2⟩
theorem jch_T {T T' : Nat → Option (Nat × Nat)} {F : Nat → Nat → Value} (hT : ∀ q k, kd T q = some k → kd T' q = some k) : ∀ {l : List Nat} {v : Value}, jch T F v l → jch T' F v l
  | [], _, h => h
  | b :: r, v, h => ⟨h.1, hT _ _ h.2.1, jch_T hT h.2.2⟩
section LN
variable {T T' : Nat → Option (Nat × Nat)} {F F' : Nat → Nat → Value} {nx nx' c nW nJ st i j sj fu : Nat} {fi fi' : Nat → Int32} {ar ar' : Nat → Nat → Int32} {ad ad' da da' : Nat → Nat} {bl bl' : bL} {ql ql' : List Nat} {w w' : Nat → Int32}
theorem ST.cg (h : ST T F c nW nJ fi w) (h0 : ∀ k, k ≤ 3 → F' c k = F c k) (h4 : F' c 4 = .int (fi' 15)) (h5 : F' c 5 = .int (fi' 17)) (h1 : F' (c + 1) = F (c + 1)) (h3 : ∀ k, k ≤ 1 → F' (c + 3) k = F (c + 3) k) (h2 : F' (c + 2) = fun i => .int (w' i)) (hf : fi' 2 = fi 2) : ST T F' c nW nJ fi' w' := by
  obtain ⟨⟨x1, x2, x3, x4, x5, x6, x7, x8⟩, s2, s3, s4, s5, s6, s7, s8, s9, s10, s11, s12, s13⟩ := h
  exact ⟨⟨x1, x2, x3, x4, x5, by rw [h1]; exact x6, by rw [h1]; exact x7, h2⟩, s2, by rw [h0 0 (by omega)]; exact s3, by rw [h0 1 (by omega)]; exact s4, by rw [h0 2 (by omega)]; exact s5, by rw [h0 3 (by omega), hf]; exact s6, h4, h5, by rw [h3 0 (by omega)]; exact s9, by rw [h3 1 (by omega)]; exact s10, s11, s12, s13⟩
theorem XI.line (hX : XI T F nx c nW nJ fi ar ad da bl ql) (hM : MI nW nJ st fi ar bl ql) (hT : ∀ q k, kd T q = some k → kd T' q = some k) (hf : ∀ q, nx' ≤ q → T' q = none) (hnx : c + 21 ≤ nx') (hS : ST T' F' c nW nJ fi' (ar' 3)) (hl : jch T' F' (F' (c + 5) 0) (ql'.map (aj ad))) (had : ∀ q, q < 300 → ad' q = ad q) (had3 : ∀ i, i ≠ j → ad' (300 + i) = ad (300 + i)) (hda : ∀ q k, kd T q = some k → da' q = da q)
    (hsj : ∀ i, i ≠ j → ar 4 i = 2 → ad (300 + i) ≠ sj) (hsj2 : ∀ q, kd T q = some 1 ∨ kd T q = some 4 ∨ kd T q = some 12 → q ≠ sj) (hF : ∀ q k, q ≠ c → q ≠ c + 2 → q ≠ c + 5 → q ≠ ad (200 + j) → q ≠ sj → (k ≠ 10 ∨ kd T q ≠ some 4) → F' q k = F q k)
    (hql : ∀ k ∈ ql', k < 100) (hjl : ar 4 j ≠ 0) (h0 : ∀ i, nJ ≤ i → ar' 4 i = 0) (ha : ∀ i, i ≠ j → ∀ k, 4 ≤ k → k ≤ 14 → ar' k i = ar k i) (h19 : ∀ i, i ≠ j → ∀ t, t < 10 → ar' 19 (10 * i + t) = ar 19 (10 * i + t)) (hw : ∀ i, i ≠ j → ar 4 i = 2 → ar 6 i = 4 → ∀ bf, bf ≤ 3000 → ar 10 i = nI bf → ∀ t, t < 24 → ar' 3 (bf + t) = ar 3 (bf + t)) (hj : XJ T' F' c nJ ar' ad' da' j) : XI T' F' nx' c nW nJ fi' ar' ad' da' bl ql' := by
  have hbl := hX.bls hM.2.2.2.1
  have hJ := hM.1.2.2.2.1
  have hLj := (hX.2.2.2.1 j).2.1 hjl
  have hA := hX.1.1
  have s11 := hX.1.2.2.2.2.2.2.2.2.2.2.1
  have kc := hX.1.2.1
  have k5 := hX.1.2.2.2.2.2.2.2.2.2.2.2.2
  have nj : ∀ {q k : Nat}, kd T q = some k → k ≠ 4 → q ≠ ad (200 + j) := fun h1 h2 e => by rw [e, hLj.1] at h1; injection h1 with h1; omega
  have ne : ∀ {q q' k k' : Nat}, kd T q = some k → kd T q' = some k' → k ≠ k' → q ≠ q' := fun h1 h2 h3 e => by rw [e, h2] at h1; injection h1 with h1; omega
  have blk : ∀ q, kd T q = some 1 → ∀ k, F' q k = F q k := fun q hq k => hF q k (ne hq kc (by decide)) (ne hq hA.2.1 (by decide)) (ne hq k5 (by decide)) (nj hq (by decide)) (hsj2 q (Or.inl hq)) (Or.inr (by rw [hq]; decide))
  have had' : ∀ i, i < 100 → ∀ m, m ≤ 2 → ad' (100 * m + i) = ad (100 * m + i) := fun i hi m hm => had _ (by omega)
  refine ⟨hS, ?_, ?_, fun i => ?_, hf, hnx⟩
  · have e : bl.map (am ad') = bl.map (am ad) := by
      apply List.map_congr_left
      intro x hx
      have := cod_lt (hM.2.2.2.1.1 x hx).1
      simp only [am]; rw [had _ (by omega)]
    rw [e]
    exact bch_congr (bch_T hT hX.2.1) (blk _ hA.2.2.2.2.1 2) (fun q hq f _ => blk q (hbl q hq).1 f)
  · have e : ql'.map (aj ad') = ql'.map (aj ad) := by
      apply List.map_congr_left
      intro k hk
      exact had _ (by have := hql k hk; omega)
    rw [e]; exact hl
  · by_cases e : i = j
    · rw [e]; exact hj
    · by_cases hi : i < nJ
      · have hx := hX.2.2.2.1 i
        have m3 : ∀ m, m ≤ 3 → ad' (100 * m + i) = ad (100 * m + i) := fun m hm => by
          by_cases c3 : m = 3
          · subst c3; exact had3 i e
          · exact had' i (by omega) m (by omega)
        refine hx.cg (fun z => hM.lt24 z) hT ?_ (ha i e) (h19 i e) m3 (fun z m hm => ?_) (fun z => ?_) (fun z k hk => ?_) (fun z q hq k _ => ?_) (fun z => ?_) (hw i e)
        · exact hF _ _ (by omega) (by omega) (by omega) (nj s11 (by decide)) (hsj2 _ (Or.inr (Or.inr s11))) (Or.inr (by rw [s11]; decide))
        · have hL := hx.2.1 z
          have : m = 0 ∨ m = 1 ∨ m = 2 := by omega
          rcases this with rfl | rfl | rfl
          · rw [show 100 * 0 + i = i by omega]; exact hda _ _ (hL.2.2.2.2 i (Or.inl rfl)).1
          · exact hda _ _ (hL.2.2.2.2 (100 + i) (Or.inr rfl)).1
          · exact hda _ _ hL.1
        · obtain ⟨K, gi, o, _, hk, _⟩ := hx.2.2 z
          exact hda _ _ hk
        · have hL := hx.2.1 z
          exact hF _ _ (by have := hL.2.1; omega) (by have := hL.2.1; omega) (by have := hL.2.1; omega) (fun z2 => e (hX.ij z hjl z2)) (hsj2 _ (Or.inr (Or.inl hL.1))) (Or.inl (by omega))
        · exact blk _ ((hx.2.1 z).2.2.2.2 q hq).1 k
        · obtain ⟨K, gi, o, _, hk, hK, hg, _⟩ := hx.2.2 z
          funext k
          exact hF _ _ (by omega) (by omega) (by omega) (nj hk (by omega)) (hsj i e z) (Or.inr (by rw [hk]; intro z2; injection z2 with z2; omega))
      · have z := h0 i (by omega)
        exact ⟨fun z2 => absurd z2 hi, fun z2 => absurd z z2, fun z2 => by rw [z] at z2; exact absurd z2 (by decide)⟩
theorem SO.cg2 (h : SO T F c ar ad da i) (h5 : ar' 5 i = ar 5 i) (h6 : ar' 6 i = ar 6 i) (h10 : ar' 10 i = ar 10 i) (h14 : ar' 14 i = ar 14 i) (h19 : ∀ t, t < 10 → ar' 19 (10 * i + t) = ar 19 (10 * i + t)) (hj : F' (ad (200 + i)) 9 = F (ad (200 + i)) 9) (hs : F' (ad (300 + i)) = F (ad (300 + i))) (hw : ar' 3 = ar 3) : SO T F' c ar' ad da i := by
  obtain ⟨K, gi, o, g1, g2, g3, g4, g5, g6, g7, g8, g9, g10, g11⟩ := h
  refine ⟨K, gi, o, by rw [hj]; exact g1, g2, g3, g4, g5, by rw [hs]; exact g6, g7, by rw [h5]; exact g8, g9, by rw [h14]; exact g10, fun z => ?_⟩
  obtain ⟨wy, n, bf, q1, q2, q3, q4, q5, q6, q7⟩ := g11 z
  exact ⟨wy, n, bf, by rw [h6]; exact q1, q2, by rw [h5]; exact q3, q4, fun z => by rw [h10]; exact q5 z, q6, by rw [hw]; exact q7.fi (fun k k1 k2 => h19 _ (by omega))⟩
theorem filter_aj (hX : XI T F nx c nW nJ fi ar ad da bl ql) (hjl : ar 4 j ≠ 0) : ∀ (l : List Nat), (∀ k ∈ l, ar 4 k ≠ 0) → (l.map (aj ad)).filter (fun b => !(b == ad (200 + j))) = (l.filter (fun k => !(k == j))).map (aj ad)
  | [], _ => rfl
  | b :: l, h => by
    have ih := filter_aj hX hjl l (fun k hk => h k (by simp [hk]))
    have hb := h b (by simp)
    rw [List.map_cons, List.filter_cons, List.filter_cons]
    by_cases e : b = j
    · subst e
      simp only [show aj ad b = ad (200 + b) from rfl, beq_self_eq_true, Bool.not_true, Bool.false_eq_true, if_false]
      exact ih
    · have e2 : (aj ad b == ad (200 + j)) = false := by
        simp only [beq_eq_false_iff_ne, ne_eq]
        exact fun z => e (hX.ij hb hjl z)
      have e3 : (b == j) = false := by simp [e]
      simp only [e2, e3, Bool.not_false, if_true, List.map_cons, ih]
theorem mem_insQ {P : Nat → Int32} {p x : Nat} : ∀ {l : List Nat}, x ∈ insQ P p l ↔ x = p ∨ x ∈ l
  | [] => by simp [insQ]
  | b :: l => by
    unfold insQ
    split
    · simp
    · rw [List.mem_cons, mem_insQ, List.mem_cons]
      constructor
      · rintro (h | h | h)
        · exact Or.inr (Or.inl h)
        · exact Or.inl h
        · exact Or.inr (Or.inr h)
      · rintro (h | h | h)
        · exact Or.inr (Or.inl h)
        · exact Or.inl h
        · exact Or.inr (Or.inr h)
theorem nd_insQ {P : Nat → Int32} {p : Nat} : ∀ {l : List Nat}, l.Nodup → p ∉ l → (insQ P p l).Nodup
  | [], _, _ => by simp [insQ]
  | b :: l, h, hp => by
    rw [List.nodup_cons] at h
    unfold insQ
    split
    · rw [List.nodup_cons]; exact ⟨hp, List.nodup_cons.mpr h⟩
    · rw [List.nodup_cons]
      refine ⟨fun z => ?_, nd_insQ h.2 (fun z => hp (by simp [z]))⟩
      rcases mem_insQ.mp z with z | z
      · exact hp (by simp [z])
      · exact h.1 z
theorem insQ_aj {P : Nat → Int32} {Q : Nat → Int32} : ∀ (l : List Nat), (∀ k, k = j ∨ k ∈ l → P (ad (200 + k)) = Q k) → insQ P (ad (200 + j)) (l.map (aj ad)) = (insQ Q j l).map (aj ad)
  | [], _ => rfl
  | b :: l, h => by
    have ih := insQ_aj l (fun k hk => h k (by rcases hk with z | z <;> simp [z]))
    have hb := h b (by simp)
    have hj := h j (Or.inl rfl)
    rw [List.map_cons]
    unfold insQ
    rw [show aj ad b = ad (200 + b) from rfl, hb, hj, ih]
    split
    · rfl
    · rfl
theorem pw_insQ (hs : ∀ k ∈ ql, ar 11 k < ar 11 j) : ∀ (l : List Nat), (∀ k ∈ l, k ∈ ql) → l.Pairwise (aft ar) → (insQ (ar 7) j l).Pairwise (aft ar)
  | [], _, _ => by simp [insQ]
  | b :: l, h, hp => by
    have ih := pw_insQ hs l (fun k hk => h k (by simp [hk])) (List.pairwise_cons.mp hp).2
    have hb := (List.pairwise_cons.mp hp).1
    unfold insQ
    split
    · rename_i c1
      rw [List.pairwise_cons]
      refine ⟨fun k hk => ?_, hp⟩
      rcases List.mem_cons.mp hk with e | hk
      · rw [e]; exact Or.inl c1
      · rcases hb k hk with z | z
        · exact Or.inl (i32_tr z c1)
        · exact Or.inl (by rw [← z.1]; exact c1)
    · rename_i c1
      rw [List.pairwise_cons]
      refine ⟨fun k hk => ?_, ih⟩
      rcases mem_insQ.mp hk with e | hk
      · rw [e]
        by_cases c2 : ar 7 j < ar 7 b
        · exact Or.inl c2
        · refine Or.inr ⟨?_, hs b (h b (by simp))⟩
          have a1 := i32_nlt.mp c1
          have a2 := i32_nlt.mp c2
          exact Int32.le_antisymm a2 a1
      · exact hb k hk
theorem aft_c (h7 : ∀ k ∈ ql, ar' 7 k = ar 7 k) (h11 : ∀ k ∈ ql, ar' 11 k = ar 11 k) : ∀ (l : List Nat), (∀ k ∈ l, k ∈ ql) → l.Pairwise (aft ar) → l.Pairwise (aft ar')
  | [], _, _ => List.Pairwise.nil
  | b :: l, h, hp => by
    rw [List.pairwise_cons] at hp ⊢
    refine ⟨fun k hk => ?_, aft_c h7 h11 l (fun k hk => h k (by simp [hk])) hp.2⟩
    have e1 := h b (by simp)
    have e2 := h k (by simp [hk])
    have := hp.1 k hk
    unfold aft at this ⊢
    rw [h7 b e1, h7 k e2, h11 b e1, h11 k e2]; exact this
/-- j leaves the line, or was not in it -/
theorem QL.rm (h : QL ar st ql) (h4 : ∀ k, k ≠ j → ar' 4 k = ar 4 k) (hj : ar' 4 j ≠ 2) (h7 : ∀ k, k ≠ j → ar' 7 k = ar 7 k) (h11 : ∀ k, k ≠ j → ar' 11 k = ar 11 k) : QL ar' st (ql.filter (fun k => !(k == j))) := by
  obtain ⟨h1, h2, h3, h5⟩ := h
  have hm : ∀ k, k ∈ ql.filter (fun k => !(k == j)) ↔ k ∈ ql ∧ k ≠ j := fun k => by rw [List.mem_filter]; simp
  refine ⟨h1.filter _, fun k => ?_, ?_, fun k hk => ?_⟩
  · rw [hm]
    by_cases e : k = j
    · subst e; constructor
      · rintro ⟨_, z⟩; exact absurd rfl z
      · intro z; exact absurd z hj
    · rw [h4 k e, h2]; simp [e]
  · refine aft_c (ql := ql.filter (fun k => !(k == j))) (fun k hk => h7 k ((hm k).mp hk).2) (fun k hk => h11 k ((hm k).mp hk).2) _ (fun k hk => hk) (h3.filter _)
  · by_cases e : k = j
    · rw [e] at hk; exact absurd hk hj
    · rw [h4 k e] at hk; rw [h11 k e]; exact h5 k hk
/-- j comes in at the end of its queue -/
theorem QL.add (h : QL ar st ql) (hnj : ar 4 j ≠ 2) (h4 : ∀ k, k ≠ j → ar' 4 k = ar 4 k) (hj : ar' 4 j = 2) (h7 : ∀ k, k ≠ j → ar' 7 k = ar 7 k) (h11 : ∀ k, k ≠ j → ar' 11 k = ar 11 k) (hj11 : ar' 11 j = nI st) (hst : st < 2 ^ 31) : QL ar' (st + 1) (insQ (ar' 7) j ql) := by
  obtain ⟨h1, h2, h3, h5⟩ := h
  have hni : ∀ k ∈ ql, k ≠ j := fun k hk e => by rw [e] at hk; exact hnj ((h2 j).mp hk)
  refine ⟨nd_insQ h1 (fun z => hni j z rfl), fun k => ?_, ?_, fun k hk => ?_⟩
  · rw [mem_insQ]
    by_cases e : k = j
    · subst e; simp [hj]
    · rw [h4 k e, h2]; simp [e]
  · refine pw_insQ (ql := ql) (fun k hk => ?_) ql (fun _ z => z) (aft_c (fun k hk => h7 k (hni k hk)) (fun k hk => h11 k (hni k hk)) ql (fun _ z => z) h3)
    obtain ⟨s, s1, s2⟩ := h5 k ((h2 k).mp hk)
    rw [h11 k (hni k hk), s2, hj11]
    exact nI_lt s1 hst
  · by_cases e : k = j
    · rw [e, hj11]; exact ⟨st, by omega, rfl⟩
    · rw [h4 k e] at hk; rw [h11 k e]
      obtain ⟨s, s1, s2⟩ := h5 k hk
      exact ⟨s, by omega, s2⟩
theorem jv_4 (x : Int32) {k : Nat} (hk : k ≤ 8) : jv (ua ar 4 j x) ad j k = if k = 5 then .int x else jv ar ad j k := by
  have : k = 0 ∨ k = 1 ∨ k = 2 ∨ k = 3 ∨ k = 4 ∨ k = 5 ∨ k = 6 ∨ k = 7 ∨ k = 8 := by omega
  rcases this with rfl | rfl | rfl | rfl | rfl | rfl | rfl | rfl | rfl <;> simp [jv, ua]
theorem jv_7 (x : Int32) {k : Nat} (hk : k ≤ 8) : jv (ua ar 7 j x) ad j k = if k = 4 then .int x else jv ar ad j k := by
  have : k = 0 ∨ k = 1 ∨ k = 2 ∨ k = 3 ∨ k = 4 ∨ k = 5 ∨ k = 6 ∨ k = 7 ∨ k = 8 := by omega
  rcases this with rfl | rfl | rfl | rfl | rfl | rfl | rfl | rfl | rfl <;> simp [jv, ua]
theorem jv_8 (x : Int32) {k : Nat} (hk : k ≤ 8) : jv (ua ar 8 j x) ad j k = if k = 6 then .int x else jv ar ad j k := by
  have : k = 0 ∨ k = 1 ∨ k = 2 ∨ k = 3 ∨ k = 4 ∨ k = 5 ∨ k = 6 ∨ k = 7 ∨ k = 8 := by omega
  rcases this with rfl | rfl | rfl | rfl | rfl | rfl | rfl | rfl | rfl <;> simp [jv, ua]
theorem jv_12 (x : Int32) {k : Nat} (hk : k ≤ 8) : jv (ua ar 12 j x) ad j k = if k = 7 then .int x else jv ar ad j k := by
  have : k = 0 ∨ k = 1 ∨ k = 2 ∨ k = 3 ∨ k = 4 ∨ k = 5 ∨ k = 6 ∨ k = 7 ∨ k = 8 := by omega
  rcases this with rfl | rfl | rfl | rfl | rfl | rfl | rfl | rfl | rfl <;> simp [jv, ua]
theorem jv_13 (x : Int32) {k : Nat} (hk : k ≤ 8) : jv (ua ar 13 j x) ad j k = if k = 8 then .int x else jv ar ad j k := by
  have : k = 0 ∨ k = 1 ∨ k = 2 ∨ k = 3 ∨ k = 4 ∨ k = 5 ∨ k = 6 ∨ k = 7 ∨ k = 8 := by omega
  rcases this with rfl | rfl | rfl | rfl | rfl | rfl | rfl | rfl | rfl <;> simp [jv, ua]
theorem jv_o {m : Nat} (x : Int32) (k : Nat) (hm : m ≠ 4 ∧ m ≠ 6 ∧ m ≠ 7 ∧ m ≠ 8 ∧ m ≠ 12 ∧ m ≠ 13) : jv (ua ar m j x) ad j k = jv ar ad j k := by
  obtain ⟨a, b, c1, d, e, f⟩ := hm
  unfold jv
  simp only [ua, Ne.symm a, Ne.symm b, Ne.symm c1, Ne.symm d, Ne.symm e, Ne.symm f, false_and, if_false]
/-- a change that the blocks do not see -/
theorem MI.mbc (h : mB ar nW bl) (h4 : ∀ k, ar' 4 k ≠ 0 ↔ ar 4 k ≠ 0) (h5 : ar' 5 = ar 5) (h6 : ar' 6 = ar 6) (h9 : ar' 9 = ar 9) (h10 : ar' 10 = ar 10) : mB ar' nW bl := by
  have eb : ∀ q, bOf ar' q = bOf ar q := fun q => by unfold bOf; rw [h9, h10]
  refine mB_g h (fun x hx => ⟨(h4 _).mpr (h.1 x hx).2.1, eb _, zOf_c h5 h6 _⟩) (fun q hq hl => Or.inr ⟨(h4 _).mp hl, eb q⟩)
theorem NZ.cg (h : NZ ar) (h4 : ∀ k, ar' 4 k ≠ 0 → ar 4 k ≠ 0) (h5 : ar' 5 = ar 5) (h6 : ar' 6 = ar 6) (h9 : ar' 9 = ar 9) (h10 : ar' 10 = ar 10) : NZ ar' := by
  have eb : ∀ q, bOf ar' q = bOf ar q := fun q => by unfold bOf; rw [h9, h10]
  intro q hq hl
  rw [eb, zOf_c h5 h6]
  exact h q hq (h4 _ hl)
end LN
