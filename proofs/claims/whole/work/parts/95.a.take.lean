theorem filter_nin {l : bL} {q : Nat} (h : ∀ x ∈ l, x.1 ≠ q) : l.filter (fun x => !(x.1 == q)) = l := by
  rw [List.filter_eq_self]
  intro x hx
  have := h x hx
  simp [this]
theorem filter_insF {nW k q : Nat} : ∀ {l : bL} {e : Nat}, (∀ x ∈ l, x.1 ≠ q) → (insF nW k q e l).filter (fun x => !(x.1 == q)) = l
  | [], e, _ => by simp [insF]
  | (b, f, s) :: r, e, h => by
    have hb : b ≠ q := h (b, f, s) (by simp)
    have hb2 : (b == q) = false := by simp [hb]
    unfold insF
    split
    · rw [List.filter_cons]
      simp only [beq_self_eq_true, Bool.not_true, Bool.false_eq_true, if_false]
      exact filter_nin h
    · rw [List.filter_cons]
      simp only [hb2, Bool.not_false, if_true]
      rw [filter_insF (fun x hx => h x (by simp [hx]))]
theorem t1_filter {nW k q : Nat} {l l' : bL} {v : Int32} (h : ∀ x ∈ l, x.1 ≠ q) (ht : t1 nW k q l = some (l', v)) : l'.filter (fun x => !(x.1 == q)) = l := by
  unfold t1 at ht
  split at ht
  · injection ht with ht
    injection ht with h1 _
    rw [← h1]; exact filter_nin h
  · split at ht
    · cases ht
    · injection ht with ht
      injection ht with h1 _
      rw [← h1]; exact filter_insF h
theorem t1_codes {nW k q : Nat} {l l' : bL} {v : Int32} (ht : t1 nW k q l = some (l', v)) : ∀ x ∈ l', x.1 = q ∨ x ∈ l := by
  unfold t1 at ht
  split at ht
  · injection ht with ht
    injection ht with h1 _
    rw [← h1]; exact fun x hx => Or.inr hx
  · split at ht
    · cases ht
    · rename_i e hf
      injection ht with ht
      injection ht with h1 _
      rw [← h1]
      intro x hx
      rcases (mem_insF hf x).mp hx with z | z
      · exact Or.inl (by rw [z])
      · exact Or.inr z
theorem nd_insF {nW k q : Nat} : ∀ {l : bL} {e e' : Nat}, ff nW k e l = some e' → (l.map (fun x => x.1)).Nodup → (∀ x ∈ l, x.1 ≠ q) → ((insF nW k q e l).map (fun x => x.1)).Nodup
  | [], e, e', _, _, _ => by simp [insF]
  | (b, f, s) :: r, e, e', hf, hn, h => by
    unfold ff at hf
    unfold insF
    split at hf
    · rename_i c
      rw [if_pos c, List.map_cons, List.nodup_cons]
      refine ⟨fun hm => ?_, hn⟩
      obtain ⟨x, hx, e1⟩ := List.mem_map.mp hm
      exact h x hx e1
    · rename_i c
      rw [if_neg c, List.map_cons, List.nodup_cons]
      rw [List.map_cons, List.nodup_cons] at hn
      refine ⟨fun hm => ?_, nd_insF hf hn.2 (fun x hx => h x (by simp [hx]))⟩
      obtain ⟨x, hx, e1⟩ := List.mem_map.mp hm
      rcases (mem_insF hf x).mp hx with z | z
      · rw [z] at e1; exact h (b, f, s) (by simp) e1.symm
      · exact hn.1 (List.mem_map.mpr ⟨x, z, e1⟩)
theorem t1_nd {nW k q : Nat} {l l' : bL} {v : Int32} (ht : t1 nW k q l = some (l', v)) (hn : (l.map (fun x => x.1)).Nodup) (h : ∀ x ∈ l, x.1 ≠ q) : (l'.map (fun x => x.1)).Nodup := by
  unfold t1 at ht
  split at ht
  · injection ht with ht
    injection ht with h1 _
    rw [← h1]; exact hn
  · split at ht
    · cases ht
    · rename_i e hf
      injection ht with ht
      injection ht with h1 _
      rw [← h1]; exact nd_insF hf hn h
theorem t1_srt {nW k q : Nat} {l l' : bL} {v : Int32} (ht : t1 nW k q l = some (l', v)) (hs : srt nW 0 l) : srt nW 0 l' := by
  unfold t1 at ht
  split at ht
  · injection ht with ht
    injection ht with h1 _
    rw [← h1]; exact hs
  · split at ht
    · cases ht
    · rename_i e hf
      injection ht with ht
      injection ht with h1 _
      rw [← h1]; exact srt_insF (by omega) hs hf
section TA
variable {T : Nat → Option (Nat × Nat)} {F : Nat → Nat → Value} {nx c nW fu k q n wy j : Nat} {ad : Nat → Nat} {w : Nat → Int32} {l : bL} {D : Nat → Prop}
theorem x_t1 (h : chL T c ad D) (hA : xA T F c nW w) (hq : D q) (hl : ∀ x ∈ l, D x.1) (hn : (l.map (fun x => x.1)).Nodup) (hs : srt nW 0 l) (hql : ∀ x ∈ l, x.1 ≠ q) (hb : bch T F (c + 3) (l.map (am ad))) (h0 : F (c + 3) 0 = .int 0) (h1 : F (c + 3) 1 = .int 0) (p0 : F (ad q) 0 = .int (-1)) (p1 : F (ad q) 1 = .int 0) (hk : k ≤ 1000) (hfu : 3001 < fu) :
    (t1 nW k q l = none → fX0_take fu (mkS T F nx) (c + 1) (some (ad q)) (nI k) = some (0, mkS T F nx)) ∧
    (∀ l' v, t1 nW k q l = some (l', v) → ∃ F', fX0_take fu (mkS T F nx) (c + 1) (some (ad q)) (nI k) = some (1, mkS T F' nx) ∧ bch T F' (c + 3) (l'.map (am ad)) ∧ F' (ad q) 0 = .int v ∧ F' (ad q) 1 = .int (nI k) ∧ (∀ a, kd T a ≠ some 1 → F' a = F a) ∧ (∀ a, a ≠ ad q → ∀ f, f ≠ 2 → F' a f = F a f)) := by
  have hW := hA.2.2.2.1
  have hlen := srt_len hs
  by_cases c0 : k = 0
  · subst c0
    refine ⟨fun z => by simp [t1] at z, fun l' v z => ?_⟩
    simp only [t1, if_true] at z
    injection z with z
    injection z with z1 z2
    subst z1 z2
    exact ⟨F, x_take0, hb, p0, p1, fun _ _ => rfl, fun _ _ _ _ => rfl⟩
  · have hp := h.1 q hq
    obtain ⟨a1, a2⟩ := x_take (fu := fu) (nx := nx) hA hp.1 (k := k) (by omega) (by omega) h0 h1 hb (by rw [srt_am]; exact hs) (by have := hp.2; omega) (fun hm => by
      rw [am_fst] at hm
      obtain ⟨q2, h2, e⟩ := List.mem_map.mp hm
      obtain ⟨x, hx, e3⟩ := List.mem_map.mp h2
      have := h.2 x.1 q (hl x hx) hq (by rw [e3]; exact e)
      exact hql x hx this) (h.nd hn hl) (by rw [List.length_map]; omega)
    rw [ff_am] at a1
    refine ⟨fun z => ?_, fun l' v z => ?_⟩
    · simp only [t1, c0, if_false] at z
      split at z
      · rename_i hf; exact a1 hf
      · cases z
    · simp only [t1, c0, if_false] at z
      split at z
      · cases z
      · rename_i e hf
        injection z with z
        injection z with z1 z2
        subst z1 z2
        obtain ⟨F', b1, b2, b3, b4, b5⟩ := a2 e (by rw [ff_am]; exact hf)
        rw [insF_am] at b2
        obtain ⟨d1, d2⟩ := bfr_F b5 (h.kd hA hl) hp.1
        exact ⟨F', b1, b2, b3, b4, d1, d2⟩
theorem x_bufferSize (S : hS) (hwy : wy ≤ 4) : fX9_bufferSize fu S (nI wy) (nI n) = some (nI (bz wy n), S) := by
  rcases (show wy = 0 ∨ wy = 1 ∨ wy = 2 ∨ wy = 3 ∨ wy = 4 by omega) with rfl | rfl | rfl | rfl | rfl <;> simp +decide [fX9_bufferSize, bz, nI]
/-- both blocks of a job that has none -/
theorem x_tcb {ja : Nat} (h : chL T c ad D) (hA : xA T F c nW w) (kc : kd T c = some 8) (c0 : F c 0 = .ref (c + 1)) (hja : kd T ja = some 4) (j1 : F ja 1 = .int (nI wy)) (j2 : F ja 2 = .ref (ad j)) (j3 : F ja 3 = .ref (ad (100 + j))) (hwy : wy ≤ 4) (hj : j < 24) (hq : D j) (hq1 : D (100 + j)) (hl : ∀ x ∈ l, D x.1) (hn : (l.map (fun x => x.1)).Nodup) (hs : srt nW 0 l) (hql : ∀ x ∈ l, x.1 ≠ j) (hql1 : ∀ x ∈ l, x.1 ≠ 100 + j) (hb : bch T F (c + 3) (l.map (am ad))) (h0 : F (c + 3) 0 = .int 0) (h1 : F (c + 3) 1 = .int 0) (p0 : F (ad j) 0 = .int (-1)) (p1 : F (ad j) 1 = .int 0) (r0 : F (ad (100 + j)) 0 = .int (-1)) (r1 : F (ad (100 + j)) 1 = .int 0) (hk : n ≤ 1000) (hfu : 3001 < fu) :
    (tk nW n (bz wy n) j l = none → ∃ F', fX9_takeCellsAndBuffer fu (mkS T F nx) c (some ja) (nI n) = some (0, mkS T F' nx) ∧ bch T F' (c + 3) (l.map (am ad)) ∧ F' (ad j) 0 = .int (-1) ∧ F' (ad j) 1 = .int 0 ∧ F' (ad (100 + j)) 0 = .int (-1) ∧ F' (ad (100 + j)) 1 = .int 0 ∧ (∀ a, kd T a ≠ some 1 → F' a = F a) ∧ (∀ a, a ≠ ad j → a ≠ ad (100 + j) → ∀ f, f ≠ 2 → F' a f = F a f)) ∧
    (∀ l' v1 v2, tk nW n (bz wy n) j l = some (l', v1, v2) → ∃ F', fX9_takeCellsAndBuffer fu (mkS T F nx) c (some ja) (nI n) = some (1, mkS T F' nx) ∧ bch T F' (c + 3) (l'.map (am ad)) ∧ F' (ad j) 0 = .int v1 ∧ F' (ad j) 1 = .int (nI n) ∧ F' (ad (100 + j)) 0 = .int v2 ∧ F' (ad (100 + j)) 1 = .int (nI (bz wy n)) ∧ (∀ a, kd T a ≠ some 1 → F' a = F a) ∧ (∀ a, a ≠ ad j → a ≠ ad (100 + j) → ∀ f, f ≠ 2 → F' a f = F a f)) := by
  have hne : ad (100 + j) ≠ ad j := fun e => by have := h.2 _ _ hq1 hq e; omega
  have nk : ∀ {q k : Nat}, kd T q = some k → k ≠ 1 → kd T q ≠ some 1 := fun h1 h2 => by rw [h1]; intro z; injection z with z; omega
  obtain ⟨a1, a2⟩ := x_t1 (fu := fu) (nx := nx) h hA hq hl hn hs hql hb h0 h1 p0 p1 hk hfu
  have hc3j := (h.1 j hq).2
  have hc3j1 := (h.1 (100 + j) hq1).2
  unfold tk
  cases ht : t1 nW n j l with
  | none =>
    refine ⟨fun _ => ⟨F, ?_, hb, p0, p1, r0, r1, fun _ _ => rfl, fun _ _ _ _ _ => rfl⟩, fun l' v1 v2 z => by cases z⟩
    simp +decide only [fX9_takeCellsAndBuffer, gR_mk kc, c0, gR_mk hja, j2, rcv_mk hA.1, a1 ht, Option.bind_some, bn2_s, zz_0, zz_1, if_true, if_false, ite_true, ite_false, vI_i, vR_n, vR_r, vR_v, reduceCtorEq]
  | some r =>
    obtain ⟨l1, v1⟩ := r
    obtain ⟨F1, b1, b2, b3, b4, b5, b6⟩ := a2 l1 v1 ht
    have hl1 : ∀ x ∈ l1, D x.1 := fun x hx => by
      rcases t1_codes ht x hx with e | e
      · rw [e]; exact hq
      · exact hl x e
    have hql2 : ∀ x ∈ l1, x.1 ≠ 100 + j := fun x hx => by
      rcases t1_codes ht x hx with e | e
      · rw [e]; omega
      · exact hql1 x e
    have hn1 := t1_nd ht hn hql
    have hs1 := t1_srt ht hs
    have F1c : F1 c = F c := b5 c (nk kc (by decide))
    have F1j : F1 ja = F ja := b5 ja (nk hja (by decide))
    have hA1 := hA.fr b5
    obtain ⟨d1, d2⟩ := x_t1 (fu := fu) (nx := nx) (k := bz wy n) h hA1 hq1 hl1 hn1 hs1 hql2 b2 (by rw [b6 _ (by omega) 0 (by decide)]; exact h0) (by rw [b6 _ (by omega) 1 (by decide)]; exact h1) (by rw [b6 _ hne 0 (by decide)]; exact r0) (by rw [b6 _ hne 1 (by decide)]; exact r1) (bz_le hk) hfu
    have c0' : F1 c 0 = .ref (c + 1) := by rw [F1c]; exact c0
    have j1' : F1 ja 1 = .int (nI wy) := by rw [F1j]; exact j1
    have j2' : F1 ja 2 = .ref (ad j) := by rw [F1j]; exact j2
    have j3' : F1 ja 3 = .ref (ad (100 + j)) := by rw [F1j]; exact j3
    simp only
    cases ht2 : t1 nW (bz wy n) (100 + j) l1 with
    | none =>
      have hlen1 : l1.length ≤ 3000 := by have := srt_len hs1; have := hA.2.2.2.1; omega
      obtain ⟨F2, e1, e2, e3, e4, e5, e6⟩ := x_gb (fu := fu) (nx := nx) h hA1 hq hl1 hn1 hlen1 hfu b2
      rw [t1_filter hql ht] at e2
      refine ⟨fun _ => ⟨F2, ?_, e2, e3, e4, by rw [e6 _ hne 0 (by decide), b6 _ hne 0 (by decide)]; exact r0, by rw [e6 _ hne 1 (by decide), b6 _ hne 1 (by decide)]; exact r1, fun a ha => by rw [e5 a ha, b5 a ha], fun a ha _ f hf => by rw [e6 a ha f hf, b6 a ha f hf]⟩, fun l' v1 v2 z => by cases z⟩
      simp +decide only [fX9_takeCellsAndBuffer, gR_mk kc, c0, gR_mk hja, gI_mk hja, j2, rcv_mk hA.1, b1, c0', j1', j2', j3', x_bufferSize _ hwy, d1 ht2, e1, Option.bind_some, bn2_s, zz_0, zz_1, if_true, if_false, ite_true, ite_false, vI_i, vR_n, vR_r, vR_v, reduceCtorEq]
    | some r2 =>
      obtain ⟨l2, v2⟩ := r2
      obtain ⟨F2, e1, e2, e3, e4, e5, e6⟩ := d2 l2 v2 ht2
      refine ⟨fun z => (by cases z), fun l' w1 w2 z => ?_⟩
      injection z with z
      injection z with z1 z
      injection z with z2 z3
      subst z1 z2 z3
      refine ⟨F2, ?_, e2, by rw [e6 _ (Ne.symm hne) 0 (by decide)]; exact b3, by rw [e6 _ (Ne.symm hne) 1 (by decide)]; exact b4, e3, e4, fun a ha => by rw [e5 a ha, b5 a ha], fun a ha ha2 f hf => by rw [e6 a ha2 f hf, b6 a ha f hf]⟩
      simp +decide only [fX9_takeCellsAndBuffer, gR_mk kc, c0, gR_mk hja, gI_mk hja, j2, rcv_mk hA.1, b1, c0', j1', j2', j3', x_bufferSize _ hwy, e1, Option.bind_some, bn2_s, zz_0, zz_1, if_true, if_false, ite_true, ite_false, vI_i, vR_n, vR_r, vR_v, reduceCtorEq]
end TA
