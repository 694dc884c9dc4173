theorem filter_com (l : bL) (a b : Nat) : (l.filter (fun x => !(x.1 == a))).filter (fun x => !(x.1 == b)) = (l.filter (fun x => !(x.1 == b))).filter (fun x => !(x.1 == a)) := by
  rw [List.filter_filter, List.filter_filter]
  apply List.filter_congr
  intro x _
  rw [Bool.and_comm]
section XG2
variable {T : Nat → Option (Nat × Nat)} {F : Nat → Nat → Value} {nx c nW fu k q n m wy j : Nat} {ad : Nat → Nat} {w : Nat → Int32} {l lb : bL} {D : Nat → Prop} {v : Int32}
/-- a block's entry: none where it has no words -/
def ent (lb : bL) (q k : Nat) (v : Int32) : Prop := (k = 0 ∧ v = -1 ∧ ∀ x ∈ lb, x.1 ≠ q) ∨ (0 < k ∧ ∃ g, v = nI g ∧ g ≤ 3000 ∧ (q, g, k) ∈ lb)
theorem x_back (h : chL T c ad D) (hA : xA T F c nW w) (hq : D q) (hl : ∀ x ∈ lb, D x.1) (hn : (lb.map (fun x => x.1)).Nodup) (hs : srt nW 0 lb) (hv : ent lb q k v) (hb : bch T F (c + 3) ((lb.filter (fun x => !(x.1 == q))).map (am ad))) (p0 : F (ad q) 0 = .int (-1)) (p1 : F (ad q) 1 = .int 0) (hk : k ≤ 1000) (hfu : 3001 < fu) :
    ∃ F', fX0_putAt fu (mkS T F nx) (c + 1) (some (ad q)) v (nI k) = some ((), mkS T F' nx) ∧ bch T F' (c + 3) (lb.map (am ad)) ∧ F' (ad q) 0 = .int v ∧ F' (ad q) 1 = .int (nI k) ∧ (∀ a, kd T a ≠ some 1 → F' a = F a) ∧ (∀ a, a ≠ ad q → ∀ f, f ≠ 2 → F' a f = F a f) := by
  have hW := hA.2.2.2.1
  have hlen := srt_len (srt_filter (fun x => !(x.1 == q)) hs)
  rcases hv with ⟨rfl, rfl, hv⟩ | ⟨k0, g, rfl, g1, hm⟩
  · rw [filter_nin hv] at hb
    exact ⟨F, x_putAt0, hb, p0, p1, fun _ _ => rfl, fun _ _ _ _ => rfl⟩
  · have hp := h.1 q hq
    have hl' : ∀ x ∈ lb.filter (fun x => !(x.1 == q)), D x.1 := fun x hx => hl x (List.mem_filter.mp hx).1
    obtain ⟨F', b1, b2, b3, b4, b5⟩ := x_putAt (fu := fu) (nx := nx) hA hp.1 g1 k0 (by omega) hb (by rw [srt_am]; exact srt_filter _ hs) (by have := hp.2; omega) (fun hm => by
      rw [am_fst] at hm
      obtain ⟨q2, h2, e⟩ := List.mem_map.mp hm
      obtain ⟨x, hx, e3⟩ := List.mem_map.mp h2
      have := h.2 x.1 q (hl' x hx) hq (by rw [e3]; exact e)
      have h5 := (List.mem_filter.mp hx).2
      simp at h5
      exact h5 this) (h.nd (nd_filter _ hn) hl') (by rw [List.length_map]; omega)
    rw [insP_am, insP_back hs hm hn] at b2
    obtain ⟨d1, d2⟩ := bfr_F b5 (h.kd hA hl') hp.1
    exact ⟨F', b1, b2, b3, b4, d1, d2⟩
theorem ent_f {b : Nat} (h : ent lb q k v) (hb : q ≠ b) : ent (lb.filter (fun x => !(x.1 == b))) q k v := by
  rcases h with ⟨h1, h2, h3⟩ | ⟨h1, g, h2, h3, h4⟩
  · exact Or.inl ⟨h1, h2, fun x hx => h3 x (List.mem_filter.mp hx).1⟩
  · exact Or.inr ⟨h1, g, h2, h3, List.mem_filter.mpr ⟨h4, by simp [hb]⟩⟩
/-- the cells alone -/
theorem x_xchg0 {ja : Nat} {bv : Int32} (h : chL T c ad D) (hA : xA T F c nW w) (kc : kd T c = some 8) (c0 : F c 0 = .ref (c + 1)) (hja : kd T ja = some 4) (j1 : F ja 1 = .int (nI wy)) (j2 : F ja 2 = .ref (ad j)) (j3 : F ja 3 = .ref (ad (100 + j))) (hwy : wy ≤ 4) (h2 : wy ≠ 2) (hj : j < 24) (hq : D j) (hq1 : D (100 + j)) (hl : ∀ x ∈ lb, D x.1) (hn : (lb.map (fun x => x.1)).Nodup) (hs : srt nW 0 lb) (hb : bch T F (c + 3) (lb.map (am ad))) (h0 : F (c + 3) 0 = .int 0) (h1 : F (c + 3) 1 = .int 0) (he : ent lb j n v) (p0 : F (ad j) 0 = .int v) (p1 : F (ad j) 1 = .int (nI n)) (r0 : F (ad (100 + j)) 0 = .int bv) (hk : n ≤ 1000) (hm : m ≤ 1000) (hfu : 3001 < fu) :
    (t1 nW m j (lb.filter (fun x => !(x.1 == j))) = none → ∃ F', fX9_exchangeBlocks fu (mkS T F nx) c (some ja) (nI m) = some (0, mkS T F' nx) ∧ bch T F' (c + 3) (lb.map (am ad)) ∧ F' (ad j) 0 = .int v ∧ F' (ad j) 1 = .int (nI n) ∧ (∀ a, kd T a ≠ some 1 → F' a = F a) ∧ (∀ a, a ≠ ad j → ∀ f, f ≠ 2 → F' a f = F a f)) ∧
    (∀ l' v1, t1 nW m j (lb.filter (fun x => !(x.1 == j))) = some (l', v1) → ∃ F', fX9_exchangeBlocks fu (mkS T F nx) c (some ja) (nI m) = fX9_exchangeBlocks_92 fu (mkS T F' nx) c (some ja) (nI m) 0 v bv (nI n) 1 ∧ bch T F' (c + 3) (l'.map (am ad)) ∧ F' (ad j) 0 = .int v1 ∧ F' (ad j) 1 = .int (nI m) ∧ (∀ a, kd T a ≠ some 1 → F' a = F a) ∧ (∀ a, a ≠ ad j → ∀ f, f ≠ 2 → F' a f = F a f)) := by
  have hW := hA.2.2.2.1
  have hlen : lb.length ≤ 3000 := by have := srt_len hs; omega
  have nk : ∀ {q k : Nat}, kd T q = some k → k ≠ 1 → kd T q ≠ some 1 := fun h1 h2 => by rw [h1]; intro z; injection z with z; omega
  have hc3j := (h.1 j hq).2
  have w2 : ¬ nI wy = (2 : Int32) := fun z => h2 ((nI_eq (a := wy) (b := 2) (by omega) (by omega)).mp z)
  obtain ⟨F1, a1, a2, a3, a4, a5, a6⟩ := x_gb (fu := fu) (nx := nx) h hA hq hl hn hlen hfu hb
  have hl' : ∀ x ∈ lb.filter (fun x => !(x.1 == j)), D x.1 := fun x hx => hl x (List.mem_filter.mp hx).1
  have hnj : ∀ x ∈ lb.filter (fun x => !(x.1 == j)), x.1 ≠ j := fun x hx => by have := (List.mem_filter.mp hx).2; simpa using this
  have hA1 := hA.fr a5
  obtain ⟨b1, b2⟩ := x_t1 (fu := fu) (nx := nx) (k := m) h hA1 hq hl' (nd_filter _ hn) (srt_filter _ hs) hnj a2 (by rw [a6 _ (by omega) 0 (by decide)]; exact h0) (by rw [a6 _ (by omega) 1 (by decide)]; exact h1) a3 a4 hm hfu
  have F1c : F1 c 0 = .ref (c + 1) := by rw [a5 c (nk kc (by decide))]; exact c0
  have F1j2 : F1 ja 2 = .ref (ad j) := by rw [a5 ja (nk hja (by decide))]; exact j2
  have kca := (h.1 j hq).1
  have kba := (h.1 (100 + j) hq1).1
  have pre : fX9_exchangeBlocks fu (mkS T F nx) c (some ja) (nI m) = bn2 (fX0_take fu (mkS T F1 nx) (c + 1) (some (ad j)) (nI m)) fun r8 S9 => fX9_exchangeBlocks_92 fu S9 c (some ja) (nI m) 0 v bv (nI n) r8 := by
    simp +decide only [fX9_exchangeBlocks, fX9_exchangeBlocks_13, fX9_exchangeBlocks_67, gI_mk hja, gR_mk hja, j1, j2, j3, w2, gI_mk kca, gI_mk kba, p0, p1, r0, gR_mk kc, c0, rcv_mk hA.1, a1, F1c, F1j2, Option.bind_some, bn2_s, zz_0, zz_1, if_true, if_false, ite_true, ite_false, vI_i, vR_n, vR_r, vR_v, reduceCtorEq]
  refine ⟨fun ht => ?_, fun l' v1 ht => ?_⟩
  · obtain ⟨F2, d1, d2, d3, d4, d5, d6⟩ := x_back (fu := fu) (nx := nx) h hA1 hq hl hn hs he a2 a3 a4 hk hfu
    refine ⟨F2, ?_, d2, d3, d4, fun a ha => by rw [d5 a ha, a5 a ha], fun a ha f hf => by rw [d6 a ha f hf, a6 a ha f hf]⟩
    rw [pre, b1 ht]
    simp +decide only [fX9_exchangeBlocks_92, gR_mk kc, F1c, gR_mk hja, F1j2, rcv_mk hA.1, d1, Option.bind_some, bn2_s, zz_0, zz_1, if_true, if_false, ite_true, ite_false, vI_i, vR_n, vR_r, vR_v, reduceCtorEq]
  · obtain ⟨F2, d1, d2, d3, d4, d5, d6⟩ := b2 l' v1 ht
    refine ⟨F2, ?_, d2, d3, d4, fun a ha => by rw [d5 a ha, a5 a ha], fun a ha f hf => by rw [d6 a ha f hf, a6 a ha f hf]⟩
    rw [pre, d1]; rfl
/-- cells and buffer -/
theorem x_xchg1 {ja : Nat} {bv : Int32} (h : chL T c ad D) (hA : xA T F c nW w) (kc : kd T c = some 8) (c0 : F c 0 = .ref (c + 1)) (hja : kd T ja = some 4) (j1 : F ja 1 = .int (nI 2)) (j2 : F ja 2 = .ref (ad j)) (j3 : F ja 3 = .ref (ad (100 + j))) (hj : j < 24) (hq : D j) (hq1 : D (100 + j)) (hl : ∀ x ∈ lb, D x.1) (hn : (lb.map (fun x => x.1)).Nodup) (hs : srt nW 0 lb) (hb : bch T F (c + 3) (lb.map (am ad))) (h0 : F (c + 3) 0 = .int 0) (h1 : F (c + 3) 1 = .int 0) (he : ent lb j n v) (he1 : ent lb (100 + j) n bv) (p0 : F (ad j) 0 = .int v) (p1 : F (ad j) 1 = .int (nI n)) (r0 : F (ad (100 + j)) 0 = .int bv) (r1 : F (ad (100 + j)) 1 = .int (nI n)) (hk : n ≤ 1000) (hm : m ≤ 1000) (hfu : 3001 < fu) :
    (tk nW m m j ((lb.filter (fun x => !(x.1 == j))).filter (fun x => !(x.1 == 100 + j))) = none → ∃ F', fX9_exchangeBlocks fu (mkS T F nx) c (some ja) (nI m) = some (0, mkS T F' nx) ∧ bch T F' (c + 3) (lb.map (am ad)) ∧ F' (ad j) 0 = .int v ∧ F' (ad j) 1 = .int (nI n) ∧ F' (ad (100 + j)) 0 = .int bv ∧ F' (ad (100 + j)) 1 = .int (nI n) ∧ (∀ a, kd T a ≠ some 1 → F' a = F a) ∧ (∀ a, a ≠ ad j → a ≠ ad (100 + j) → ∀ f, f ≠ 2 → F' a f = F a f)) ∧
    (∀ l' v1 v2, tk nW m m j ((lb.filter (fun x => !(x.1 == j))).filter (fun x => !(x.1 == 100 + j))) = some (l', v1, v2) → ∃ F', fX9_exchangeBlocks fu (mkS T F nx) c (some ja) (nI m) = fX9_exchangeBlocks_92 fu (mkS T F' nx) c (some ja) (nI m) 1 v bv (nI n) 1 ∧ bch T F' (c + 3) (l'.map (am ad)) ∧ F' (ad j) 0 = .int v1 ∧ F' (ad j) 1 = .int (nI m) ∧ F' (ad (100 + j)) 0 = .int v2 ∧ F' (ad (100 + j)) 1 = .int (nI m) ∧ (∀ a, kd T a ≠ some 1 → F' a = F a) ∧ (∀ a, a ≠ ad j → a ≠ ad (100 + j) → ∀ f, f ≠ 2 → F' a f = F a f)) := by
  have hW := hA.2.2.2.1
  have hlen : lb.length ≤ 3000 := by have := srt_len hs; omega
  have nk : ∀ {q k : Nat}, kd T q = some k → k ≠ 1 → kd T q ≠ some 1 := fun h1 h2 => by rw [h1]; intro z; injection z with z; omega
  have hne : ad (100 + j) ≠ ad j := fun e => by have := h.2 _ _ hq1 hq e; omega
  have hc3j := (h.1 j hq).2
  have hc3j1 := (h.1 (100 + j) hq1).2
  have b2z : bz 2 m = m := by simp [bz]
  obtain ⟨F1, a1, a2, a3, a4, a5, a6⟩ := x_gb (fu := fu) (nx := nx) h hA hq hl hn hlen hfu hb
  have hl1 : ∀ x ∈ lb.filter (fun x => !(x.1 == j)), D x.1 := fun x hx => hl x (List.mem_filter.mp hx).1
  have hA1 := hA.fr a5
  obtain ⟨F2, g1, g2, g3, g4, g5, g6⟩ := x_gb (fu := fu) (nx := nx) h hA1 hq1 hl1 (nd_filter _ hn) (len_filter _ _ hlen) hfu a2
  have hA2 := hA1.fr g5
  have hl2 : ∀ x ∈ (lb.filter (fun x => !(x.1 == j))).filter (fun x => !(x.1 == 100 + j)), D x.1 := fun x hx => hl1 x (List.mem_filter.mp hx).1
  have F2n : ∀ a, kd T a ≠ some 1 → F2 a = F a := fun a ha => by rw [g5 a ha, a5 a ha]
  have F1c : F1 c 0 = .ref (c + 1) := by rw [a5 c (nk kc (by decide))]; exact c0
  have F1j3 : F1 ja 3 = .ref (ad (100 + j)) := by rw [a5 ja (nk hja (by decide))]; exact j3
  have kca := (h.1 j hq).1
  have kba := (h.1 (100 + j) hq1).1
  obtain ⟨b1, b2⟩ := x_tcb (fu := fu) (nx := nx) (ja := ja) (wy := 2) (n := m) (j := j) h hA2 kc (by rw [F2n c (nk kc (by decide))]; exact c0) hja (by rw [F2n ja (nk hja (by decide))]; exact j1) (by rw [F2n ja (nk hja (by decide))]; exact j2) (by rw [F2n ja (nk hja (by decide))]; exact j3) (by omega) hj hq hq1 hl2 (nd_filter _ (nd_filter _ hn)) (srt_filter _ (srt_filter _ hs)) (fun x hx => by have := (List.mem_filter.mp (List.mem_filter.mp hx).1).2; simpa using this) (fun x hx => by have := (List.mem_filter.mp hx).2; simpa using this) g2 (by rw [g6 _ (by omega) 0 (by decide), a6 _ (by omega) 0 (by decide)]; exact h0) (by rw [g6 _ (by omega) 1 (by decide), a6 _ (by omega) 1 (by decide)]; exact h1) (by rw [g6 _ (Ne.symm hne) 0 (by decide)]; exact a3) (by rw [g6 _ (Ne.symm hne) 1 (by decide)]; exact a4) g3 g4 hm hfu
  rw [b2z] at b1 b2
  have pre : fX9_exchangeBlocks fu (mkS T F nx) c (some ja) (nI m) = bn2 (fX9_takeCellsAndBuffer fu (mkS T F2 nx) c (some ja) (nI m)) fun r16 S17 => fX9_exchangeBlocks_92 fu S17 c (some ja) (nI m) 1 v bv (nI n) r16 := by
    simp +decide only [fX9_exchangeBlocks, fX9_exchangeBlocks_13, fX9_exchangeBlocks_67, gI_mk hja, gR_mk hja, j1, j2, j3, show nI 2 = (2 : Int32) from rfl, gI_mk kca, gI_mk kba, p0, p1, r0, gR_mk kc, c0, rcv_mk hA.1, a1, F1c, F1j3, g1, rcv_mk kc, Option.bind_some, bn2_s, zz_0, zz_1, if_true, if_false, ite_true, ite_false, vI_i, vR_n, vR_r, vR_v, reduceCtorEq]
  refine ⟨fun ht => ?_, fun l' v1 v2 ht => ?_⟩
  · obtain ⟨F3, d1, d2, d3, d4, d5, d6, d7, d8⟩ := b1 ht
    have hA3 := hA2.fr d7
    rw [filter_com] at d2
    obtain ⟨F4, e1, e2, e3, e4, e5, e6⟩ := x_back (fu := fu) (nx := nx) (q := j) (v := v) (lb := lb.filter (fun x => !(x.1 == 100 + j))) h hA3 hq (fun x hx => hl x (List.mem_filter.mp hx).1) (nd_filter _ hn) (srt_filter _ hs) (ent_f he (by omega)) d2 d3 d4 hk hfu
    obtain ⟨F5, f1, f2, f3, f4, f5, f6⟩ := x_back (fu := fu) (nx := nx) (q := 100 + j) (v := bv) (lb := lb) h (hA3.fr e5) hq1 hl hn hs he1 e2 (by rw [e6 _ hne 0 (by decide)]; exact d5) (by rw [e6 _ hne 1 (by decide)]; exact d6) hk hfu
    have F3n : ∀ a, kd T a ≠ some 1 → F3 a = F a := fun a ha => by rw [d7 a ha, F2n a ha]
    have F4n : ∀ a, kd T a ≠ some 1 → F4 a = F a := fun a ha => by rw [e5 a ha, F3n a ha]
    refine ⟨F5, ?_, f2, by rw [f6 _ (Ne.symm hne) 0 (by decide)]; exact e3, by rw [f6 _ (Ne.symm hne) 1 (by decide)]; exact e4, f3, f4, fun a ha => by rw [f5 a ha, F4n a ha], fun a ha ha2 f hf => by rw [f6 a ha2 f hf, e6 a ha f hf, d8 a ha ha2 f hf, g6 a ha2 f hf, a6 a ha f hf]⟩
    have F3c : F3 c 0 = .ref (c + 1) := by rw [F3n c (nk kc (by decide))]; exact c0
    have F3j : F3 ja 2 = .ref (ad j) := by rw [F3n ja (nk hja (by decide))]; exact j2
    have F4c : F4 c 0 = .ref (c + 1) := by rw [F4n c (nk kc (by decide))]; exact c0
    have F4j : F4 ja 3 = .ref (ad (100 + j)) := by rw [F4n ja (nk hja (by decide))]; exact j3
    rw [pre, d1]
    simp +decide only [fX9_exchangeBlocks_92, gR_mk kc, F3c, gR_mk hja, F3j, rcv_mk hA.1, e1, F4c, F4j, f1, Option.bind_some, bn2_s, zz_0, zz_1, if_true, if_false, ite_true, ite_false, vI_i, vR_n, vR_r, vR_v, reduceCtorEq]
  · obtain ⟨F3, d1, d2, d3, d4, d5, d6, d7, d8⟩ := b2 l' v1 v2 ht
    refine ⟨F3, ?_, d2, d3, d4, d5, d6, fun a ha => by rw [d7 a ha, F2n a ha], fun a ha ha2 f hf => by rw [d8 a ha ha2 f hf, g6 a ha2 f hf, a6 a ha f hf]⟩
    rw [pre, d1]; rfl
end XG2
