theorem sB_j (ar : Nat → Nat → Int32) {j : Nat} (hj : j < 24) (e : Int32) : sB ar j e = ua ar 9 j e := by unfold sB; rw [if_pos (by omega)]
theorem sB_1 (ar : Nat → Nat → Int32) (j : Nat) (e : Int32) : sB ar (100 + j) e = ua ar 10 j e := by unfold sB; rw [if_neg (by omega), show 100 + j - 100 = j by omega]
theorem bOf_j (ar : Nat → Nat → Int32) {j : Nat} (hj : j < 24) : bOf ar j = ar 9 j := by unfold bOf; rw [if_pos (by omega)]
theorem bOf_1 (ar : Nat → Nat → Int32) (j : Nat) : bOf ar (100 + j) = ar 10 j := by unfold bOf; rw [if_neg (by omega), show 100 + j - 100 = j by omega]
theorem zOf_j (ar : Nat → Nat → Int32) {j : Nat} (hj : j < 24) : zOf ar j = ar 5 j := by unfold zOf; rw [if_pos (by omega)]
theorem zOf_1 (ar : Nat → Nat → Int32) (j : Nat) : zOf ar (100 + j) = bsz ar j := by unfold zOf; rw [if_neg (by omega), show 100 + j - 100 = j by omega]
theorem cod_j {j : Nat} (hj : j < 24) : cod j := Or.inl hj
theorem cod_1 {j : Nat} (hj : j < 24) : cod (100 + j) := Or.inr ⟨by omega, by omega⟩
theorem cod_cs {q : Nat} (h : cod q) : (q = jb q ∧ jb q < 24) ∨ (q = 100 + jb q ∧ jb q < 24) := by
  unfold cod at h
  unfold jb
  split <;> omega
theorem mB_g {ar ar' : Nat → Nat → Int32} {nW : Nat} {bl : bL} (h : mB ar nW bl) (h1 : ∀ x ∈ bl, ar' 4 (jb x.1) ≠ 0 ∧ bOf ar' x.1 = bOf ar x.1 ∧ zOf ar' x.1 = zOf ar x.1) (h2 : ∀ q, cod q → ar' 4 (jb q) ≠ 0 → bOf ar' q = -1 ∨ (ar 4 (jb q) ≠ 0 ∧ bOf ar' q = bOf ar q)) : mB ar' nW bl := by
  refine ⟨fun x hx => ?_, fun q hq hl => ?_⟩
  · obtain ⟨a1, a2, a3, a4, a5, a6⟩ := h.1 x hx
    obtain ⟨b1, b2, b3⟩ := h1 x hx
    exact ⟨a1, b1, by rw [b2]; exact a3, by rw [b3]; exact a4, a5, a6⟩
  · rcases h2 q hq hl with e | ⟨e1, e2⟩
    · exact Or.inl e
    · rcases h.2 q hq e1 with e | e
      · exact Or.inl (by rw [e2]; exact e)
      · exact Or.inr e
theorem mB_rm {ar : Nat → Nat → Int32} {nW q : Nat} {bl : bL} (h : mB ar nW bl) (hq : cod q) : mB (sB ar q (-1)) nW (bl.filter (fun x => !(x.1 == q))) := by
  refine ⟨fun x hx => ?_, fun q' hq' hl => ?_⟩
  · obtain ⟨hx, hp⟩ := List.mem_filter.mp hx
    have hne : x.1 ≠ q := by simpa using hp
    obtain ⟨a1, a2, a3, a4, a5, a6⟩ := h.1 x hx
    exact ⟨a1, by rw [sB_o _ _ _ (by decide) (by decide)]; exact a2, by rw [sB_n _ _ hne hq a1]; exact a3, by rw [zOf_c (sB_o _ _ _ (by decide) (by decide)) (sB_o _ _ _ (by decide) (by decide))]; exact a4, a5, a6⟩
  · by_cases e : q' = q
    · subst e; exact Or.inl (sB_s _ _ _)
    · rw [sB_n _ _ e hq hq']
      rw [sB_o _ _ _ (by decide) (by decide)] at hl
      rcases h.2 q' hq' hl with a | ⟨f, s, a⟩
      · exact Or.inl a
      · exact Or.inr ⟨f, s, List.mem_filter.mpr ⟨a, by simp [e]⟩⟩
theorem mB_nin {ar : Nat → Nat → Int32} {nW q : Nat} {bl : bL} (h : mB ar nW bl) (hW : nW ≤ 3000) (hb : bOf ar q = -1) : ∀ x ∈ bl, x.1 ≠ q := fun x hx e => by
  obtain ⟨a1, a2, a3, a4, a5, a6⟩ := h.1 x hx
  rw [e, hb] at a3
  exact nI_n1 (by omega) a3.symm
theorem mB_in {ar : Nat → Nat → Int32} {nW q k e : Nat} {bl : bL} (h : mB ar nW bl) (hW : nW ≤ 3000) (hq : cod q) (hl : ar 4 (jb q) ≠ 0) (hz : zOf ar q = nI k) (hk : 0 < k) (hs : srt nW 0 bl) (hf : ff nW k 0 bl = some e) (hb : bOf ar q = -1) : mB (sB ar q (nI e)) nW (insF nW k q 0 bl) := by
  have hni := mB_nin h hW hb
  have hle := ff_le hs hf
  refine ⟨fun x hx => ?_, fun q' hq' hl' => ?_⟩
  · rw [sB_o _ _ _ (by decide) (by decide), zOf_c (sB_o _ _ _ (by decide) (by decide)) (sB_o _ _ _ (by decide) (by decide))]
    rcases (mem_insF hf x).mp hx with rfl | hx
    · exact ⟨hq, hl, sB_s _ _ _, hz, hle.2, hk⟩
    · obtain ⟨a1, a2, a3, a4, a5, a6⟩ := h.1 x hx
      exact ⟨a1, a2, by rw [sB_n _ _ (hni x hx) hq a1]; exact a3, a4, a5, a6⟩
  · by_cases e' : q' = q
    · subst e'; exact Or.inr ⟨e, k, (mem_insF hf _).mpr (Or.inl rfl)⟩
    · rw [sB_n _ _ e' hq hq']
      rw [sB_o _ _ _ (by decide) (by decide)] at hl'
      rcases h.2 q' hq' hl' with a | ⟨f, s, a⟩
      · exact Or.inl a
      · exact Or.inr ⟨f, s, (mem_insF hf _).mpr (Or.inr a)⟩
theorem mB_uniq {ar : Nat → Nat → Int32} {nW : Nat} {bl : bL} (h : mB ar nW bl) (hW : nW ≤ 3000) : ∀ x ∈ bl, ∀ y ∈ bl, x.1 = y.1 → x = y := fun x hx y hy e => by
  obtain ⟨a1, a2, a3, a4, a5, a6⟩ := h.1 x hx
  obtain ⟨b1, b2, b3, b4, b5, b6⟩ := h.1 y hy
  rw [e, b3] at a3
  rw [e, b4] at a4
  have e1 := (nI_eq (by omega) (by omega)).mp a3
  have e2 := (nI_eq (by omega) (by omega)).mp a4
  obtain ⟨x1, x2, x3⟩ := x
  obtain ⟨y1, y2, y3⟩ := y
  simp only at e e1 e2
  rw [e, e1, e2]
theorem mB_nd {ar : Nat → Nat → Int32} {nW : Nat} {bl : bL} (h : mB ar nW bl) (hW : nW ≤ 3000) (hs : srt nW 0 bl) : (bl.map (fun x => x.1)).Nodup := srt_nd hs (mB_uniq h hW)
/-- one block taken: none where there is no room -/
def t1 (nW k q : Nat) (bl : bL) : Option (bL × Int32) := if k = 0 then some (bl, -1) else match ff nW k 0 bl with
  | none => none
  | some e => some (insF nW k q 0 bl, nI e)
def tk (nW n k j : Nat) (bl : bL) : Option (bL × Int32 × Int32) := match t1 nW n j bl with
  | none => none
  | some r => match t1 nW k (100 + j) r.1 with
    | none => none
    | some r2 => some (r2.1, r.2, r2.2)
theorem bsz_z {ar : Nat → Nat → Int32} {j n wy : Nat} (h5 : ar 5 j = nI n) (h6 : ar 6 j = nI wy) (hwy : wy ≤ 4) : bsz ar j = nI (bz wy n) := by
  unfold bsz bz
  rw [h6, h5]
  rcases (show wy = 0 ∨ wy = 1 ∨ wy = 2 ∨ wy = 3 ∨ wy = 4 by omega) with rfl | rfl | rfl | rfl | rfl <;> simp +decide
theorem bz_le {wy n : Nat} (hn : n ≤ 1000) : bz wy n ≤ 1000 := by unfold bz; split <;> (try split) <;> omega
theorem t1_mB {ar : Nat → Nat → Int32} {nW k q : Nat} {bl bl' : bL} {v : Int32} (h : mB ar nW bl) (hW : nW ≤ 3000) (hq : cod q) (hl : ar 4 (jb q) ≠ 0) (hz : zOf ar q = nI k) (hs : srt nW 0 bl) (hb : bOf ar q = -1) (ht : t1 nW k q bl = some (bl', v)) : mB (sB ar q v) nW bl' ∧ srt nW 0 bl' ∧ (v = -1 ↔ k = 0) ∧ (k = 0 → bl' = bl) ∧ (k ≠ 0 → ∃ e, v = nI e ∧ e + k ≤ nW ∧ ∀ x, x ∈ bl' ↔ x = (q, e, k) ∨ x ∈ bl) := by
  unfold t1 at ht
  split at ht
  · rename_i c
    injection ht with ht
    injection ht with h1 h2
    subst h1 h2
    have e : sB ar q (-1) = ar := by
      funext k' j'
      unfold sB
      unfold bOf at hb
      split
      · rename_i c2
        rw [if_pos c2] at hb
        simp only [ua]; split
        · rename_i e; rw [e.1, e.2, hb]
        · rfl
      · rename_i c2
        rw [if_neg c2] at hb
        simp only [ua]; split
        · rename_i e; rw [e.1, e.2, hb]
        · rfl
    rw [e]
    exact ⟨h, hs, by simp [c], fun _ => rfl, fun z => absurd c z⟩
  · rename_i c
    split at ht
    · cases ht
    · rename_i e hf
      injection ht with ht
      injection ht with h1 h2
      subst h1 h2
      have hle := ff_le hs hf
      refine ⟨mB_in h hW hq hl hz (by omega) hs hf hb, srt_insF (by omega) hs hf, ?_, fun z => absurd z c, fun _ => ⟨e, rfl, hle.2, mem_insF hf⟩⟩
      constructor
      · intro z; exact absurd z (nI_n1 (by omega))
      · intro z; exact absurd z c
theorem ua_ua (ar : Nat → Nat → Int32) (k j : Nat) (x y : Int32) : ua (ua ar k j x) k j y = ua ar k j y := by
  funext k' j'
  simp only [ua]
  split <;> rfl
theorem ua_self {ar : Nat → Nat → Int32} {k j : Nat} {x : Int32} (h : ar k j = x) : ua ar k j x = ar := by
  funext k' j'
  simp only [ua]
  split
  · rename_i e; rw [e.1, e.2, h]
  · rfl
theorem ua_com (ar : Nat → Nat → Int32) {k k2 : Nat} (j j2 : Nat) (x y : Int32) (h : k ≠ k2) : ua (ua ar k j x) k2 j2 y = ua (ua ar k2 j2 y) k j x := by
  funext k' j'
  simp only [ua]
  by_cases e1 : k' = k ∧ j' = j
  · have : ¬ (k' = k2 ∧ j' = j2) := fun z => h (by rw [← e1.1, z.1])
    simp only [e1, and_self, if_true]
    rw [if_neg (by rw [← e1.1, ← e1.2]; exact this)]
  · simp only [e1, if_false]
section MK
variable {T : Nat → Option (Nat × Nat)} {G : Nat → Nat → Value} {nx z nW fu j n wy : Nat} {fi : Nat → Int32} {ar : Nat → Nat → Int32} {bl : bL}
theorem m_t52 (hT : mT T z nW) (h0 : fi 0 = nI nW) (hj : j < 24) (h4 : ar 4 j ≠ 0) (h5 : ar 5 j = nI n) (hn : n ≤ 1000) (h6 : ar 6 j = nI wy) (hwy : wy ≤ 4) (hB : mB ar nW bl) (hs : srt nW 0 bl) (hb : ar 10 j = -1) (hfu : 3000 < fu) :
    (t1 nW (bz wy n) (100 + j) bl = none → fX10_takes_52 fu (mw T G nx z fi ar) z (nI j) 0 = some (0, mw T G nx z fi (ua ar 9 j (-1)))) ∧
    (∀ bl' v, t1 nW (bz wy n) (100 + j) bl = some (bl', v) → fX10_takes_52 fu (mw T G nx z fi ar) z (nI j) 0 = some (1, mw T G nx z fi (ua ar 10 j v))) := by
  have hk := bz_le (wy := wy) hn
  have hz : (if ar 6 j = 2 then ar 5 j else if ar 6 j = 4 then 24 else 0) = nI (bz wy n) := bsz_z h5 h6 hwy
  have e0 := m_bufferSize (fu := fu) (G := G) (nx := nx) (fi := fi) (ar := ar) hT hj
  rw [hz] at e0
  have hl := srt_len hs
  have hW := hT.2.1
  by_cases c : bz wy n = 0
  · refine ⟨fun h => by simp [t1, c] at h, fun bl' v h => ?_⟩
    simp only [t1, c, if_true] at h
    injection h with h
    injection h with _ h
    subst h
    rw [ua_self hb]
    simp +decide only [fX10_takes_52, Option.bind_some, bn2_s, zz_0, zz_1, if_true, if_false, ite_true, ite_false, vI_i, vR_n, vR_r, vR_v, reduceCtorEq, gI_m hT, gR_m hT, rcv_m hT, pV_m hT, aI_24 hT, sV_24 hT, aI_3 hT, sV_3 hT, aI_18 hT, sV_18 hT, aI_19 hT, sV_19 hT, aI_mZ hT, sV_mZ hT, ui_s, ui_n, ua_s, ua_k, e0, c, show nI 0 = (0 : Int32) from rfl]
  · have c1 : ¬ nI (bz wy n) = 0 := nI_ne0 (by omega) (by omega)
    have rm := m_room (fu := fu) (G := G) (nx := nx) hT h0 (k := bz wy n) (by omega) (by omega) hB hs (by omega) (by omega)
    refine ⟨fun h => ?_, fun bl' v h => ?_⟩
    · simp only [t1, c, if_false] at h
      split at h
      · rename_i hf
        rw [hf] at rm
        simp +decide only [fX10_takes_52, Option.bind_some, bn2_s, zz_0, zz_1, if_true, if_false, ite_true, ite_false, vI_i, vR_n, vR_r, vR_v, reduceCtorEq, gI_m hT, gR_m hT, rcv_m hT, pV_m hT, aI_24 hT, sV_24 hT, aI_3 hT, sV_3 hT, aI_18 hT, sV_18 hT, aI_19 hT, sV_19 hT, aI_mZ hT, sV_mZ hT, ui_s, ui_n, ua_s, ua_k, e0, c1, rm, oN, hj]
      · cases h
    · simp only [t1, c, if_false] at h
      split at h
      · cases h
      · rename_i e hf
        injection h with h
        injection h with _ h
        subst h
        rw [hf] at rm
        have := ff_le hs hf
        have n1 : ¬ nI e = (-1 : Int32) := nI_n1 (by omega)
        simp +decide only [fX10_takes_52, Option.bind_some, bn2_s, zz_0, zz_1, if_true, if_false, ite_true, ite_false, vI_i, vR_n, vR_r, vR_v, reduceCtorEq, gI_m hT, gR_m hT, rcv_m hT, pV_m hT, aI_24 hT, sV_24 hT, aI_3 hT, sV_3 hT, aI_18 hT, sV_18 hT, aI_19 hT, sV_19 hT, aI_mZ hT, sV_mZ hT, ui_s, ui_n, ua_s, ua_k, e0, c1, rm, oN, hj, n1]
theorem m_t18 (hT : mT T z nW) (h0 : fi 0 = nI nW) (hj : j < 24) (h4 : ar 4 j ≠ 0) (h5 : ar 5 j = nI n) (hn : n ≤ 1000) (hB : mB ar nW bl) (hs : srt nW 0 bl) (hb : ar 9 j = -1) (hfu : 3000 < fu) {kp : Int32} :
    (t1 nW n j bl = none → fX10_takes_18 fu (mw T G nx z fi ar) z (nI j) kp = some (0, mw T G nx z fi ar)) ∧
    (∀ bl' v, t1 nW n j bl = some (bl', v) → fX10_takes_18 fu (mw T G nx z fi ar) z (nI j) kp = fX10_takes_52 fu (mw T G nx z fi (ua ar 9 j v)) z (nI j) kp) := by
  have hl := srt_len hs
  have hW := hT.2.1
  by_cases c : n = 0
  · refine ⟨fun h => by simp [t1, c] at h, fun bl' v h => ?_⟩
    simp only [t1, c, if_true] at h
    injection h with h
    injection h with _ h
    subst h
    rw [ua_self hb]
    simp +decide only [fX10_takes_18, Option.bind_some, bn2_s, zz_0, zz_1, if_true, if_false, ite_true, ite_false, vI_i, vR_n, vR_r, vR_v, reduceCtorEq, gI_m hT, gR_m hT, rcv_m hT, pV_m hT, aI_24 hT, sV_24 hT, aI_3 hT, sV_3 hT, aI_18 hT, sV_18 hT, aI_19 hT, sV_19 hT, aI_mZ hT, sV_mZ hT, ui_s, ui_n, ua_s, ua_k, hj, h5, c, show nI 0 = (0 : Int32) from rfl]
  · have c1 : ¬ nI n ≤ 0 := nI_nle (by omega) (by omega)
    have rm := m_room (fu := fu) (G := G) (nx := nx) hT h0 (k := n) (by omega) (by omega) hB hs (by omega) (by omega)
    refine ⟨fun h => ?_, fun bl' v h => ?_⟩
    · simp only [t1, c, if_false] at h
      split at h
      · rename_i hf
        rw [hf] at rm
        simp +decide only [fX10_takes_18, Option.bind_some, bn2_s, zz_0, zz_1, if_true, if_false, ite_true, ite_false, vI_i, vR_n, vR_r, vR_v, reduceCtorEq, gI_m hT, gR_m hT, rcv_m hT, pV_m hT, aI_24 hT, sV_24 hT, aI_3 hT, sV_3 hT, aI_18 hT, sV_18 hT, aI_19 hT, sV_19 hT, aI_mZ hT, sV_mZ hT, ui_s, ui_n, ua_s, ua_k, h5, c1, rm, oN, hj]
      · cases h
    · simp only [t1, c, if_false] at h
      split at h
      · cases h
      · rename_i e hf
        injection h with h
        injection h with _ h
        subst h
        rw [hf] at rm
        have := ff_le hs hf
        have n1 : ¬ nI e = (-1 : Int32) := nI_n1 (by omega)
        simp +decide only [fX10_takes_18, Option.bind_some, bn2_s, zz_0, zz_1, if_true, if_false, ite_true, ite_false, vI_i, vR_n, vR_r, vR_v, reduceCtorEq, gI_m hT, gR_m hT, rcv_m hT, pV_m hT, aI_24 hT, sV_24 hT, aI_3 hT, sV_3 hT, aI_18 hT, sV_18 hT, aI_19 hT, sV_19 hT, aI_mZ hT, sV_mZ hT, ui_s, ui_n, ua_s, ua_k, h5, c1, rm, oN, hj, n1]
/-- both blocks taken anew -/
theorem m_takes0 (hT : mT T z nW) (h0 : fi 0 = nI nW) (hj : j < 24) (h4 : ar 4 j ≠ 0) (h5 : ar 5 j = nI n) (hn : n ≤ 1000) (h6 : ar 6 j = nI wy) (hwy : wy ≤ 4) (hB : mB (ua (ua ar 9 j (-1)) 10 j (-1)) nW bl) (hs : srt nW 0 bl) (hfu : 3000 < fu) :
    (tk nW n (bz wy n) j bl = none → ∃ v1 v2, fX10_takes fu (mw T G nx z fi ar) z (nI j) 0 = some (0, mw T G nx z fi (ua (ua ar 9 j v1) 10 j v2))) ∧
    (∀ bl' v1 v2, tk nW n (bz wy n) j bl = some (bl', v1, v2) → fX10_takes fu (mw T G nx z fi ar) z (nI j) 0 = some (1, mw T G nx z fi (ua (ua ar 9 j v1) 10 j v2)) ∧ mB (ua (ua ar 9 j v1) 10 j v2) nW bl' ∧ srt nW 0 bl') := by
  have hW := hT.2.1
  have e1 : fX10_takes fu (mw T G nx z fi ar) z (nI j) 0 = fX10_takes_18 fu (mw T G nx z fi (ua (ua ar 9 j (-1)) 10 j (-1))) z (nI j) 0 := by
    simp +decide only [fX10_takes, Option.bind_some, bn2_s, zz_0, zz_1, if_true, if_false, ite_true, ite_false, vI_i, vR_n, vR_r, vR_v, reduceCtorEq, gI_m hT, gR_m hT, rcv_m hT, pV_m hT, aI_24 hT, sV_24 hT, aI_3 hT, sV_3 hT, aI_18 hT, sV_18 hT, aI_19 hT, sV_19 hT, aI_mZ hT, sV_mZ hT, ui_s, ui_n, ua_s, ua_k, hj]
  rw [e1]
  have g : ∀ (v1 v2 : Int32) {k : Nat}, k ≠ 9 → k ≠ 10 → ua (ua ar 9 j v1) 10 j v2 k = ar k := fun v1 v2 k a b => by funext q; simp [ua, a, b]
  obtain ⟨a1, a2⟩ := m_t18 (fu := fu) (G := G) (nx := nx) (ar := ua (ua ar 9 j (-1)) 10 j (-1)) hT h0 hj (by rw [g _ _ (by decide) (by decide)]; exact h4) (by rw [g _ _ (by decide) (by decide)]; exact h5) hn hB hs (by simp [ua]) hfu (kp := 0)
  unfold tk
  cases ht : t1 nW n j bl with
  | none => exact ⟨fun _ => ⟨-1, -1, a1 ht⟩, fun bl' v1 v2 h => by cases h⟩
  | some r =>
    obtain ⟨bl1, v1⟩ := r
    rw [a2 bl1 v1 ht]
    have e2 : ua (ua (ua ar 9 j (-1)) 10 j (-1)) 9 j v1 = ua (ua ar 9 j v1) 10 j (-1) := by rw [ua_com _ _ _ _ _ (by decide : (10 : Nat) ≠ 9), ua_ua]
    rw [e2]
    obtain ⟨b1, b2, b3, b4, b5⟩ := t1_mB hB hW (cod_j hj) (by rw [jb_j j hj, g _ _ (by decide) (by decide)]; exact h4) (by rw [zOf_j _ hj, g _ _ (by decide) (by decide)]; exact h5) hs (by rw [bOf_j _ hj]; simp [ua]) ht
    rw [sB_j _ hj, e2] at b1
    obtain ⟨c1, c2⟩ := m_t52 (fu := fu) (G := G) (nx := nx) (ar := ua (ua ar 9 j v1) 10 j (-1)) hT h0 hj (by rw [g _ _ (by decide) (by decide)]; exact h4) (by rw [g _ _ (by decide) (by decide)]; exact h5) hn (by rw [g _ _ (by decide) (by decide)]; exact h6) hwy b1 b2 (by simp [ua]) hfu
    simp only
    cases ht2 : t1 nW (bz wy n) (100 + j) bl1 with
    | none =>
      refine ⟨fun _ => ⟨-1, -1, ?_⟩, fun bl' v1 v2 h => by cases h⟩
      rw [c1 ht2, ua_com _ _ _ _ _ (by decide : (10 : Nat) ≠ 9), ua_ua]
    | some r2 =>
      obtain ⟨bl2, v2⟩ := r2
      refine ⟨fun h => (by cases h), fun bl' w1 w2 h => ?_⟩
      injection h with h
      injection h with h1 h
      injection h with h2 h3
      subst h1 h2 h3
      obtain ⟨d1, d2, d3⟩ := t1_mB b1 hW (cod_1 hj) (by rw [jb_1, g _ _ (by decide) (by decide)]; exact h4) (by rw [zOf_1]; exact bsz_z (by rw [g _ _ (by decide) (by decide)]; exact h5) (by rw [g _ _ (by decide) (by decide)]; exact h6) hwy) b2 (by rw [bOf_1]; simp [ua]) ht2
      rw [sB_1, ua_ua] at d1
      exact ⟨by rw [c2 bl2 v2 ht2, ua_ua], d1, d2⟩
/-- the cells taken anew, the buffer kept -/
theorem m_takes1 (hT : mT T z nW) (h0 : fi 0 = nI nW) (hj : j < 24) (h4 : ar 4 j ≠ 0) (h5 : ar 5 j = nI n) (hn : n ≤ 1000) (hB : mB (ua ar 9 j (-1)) nW bl) (hs : srt nW 0 bl) (hfu : 3000 < fu) :
    (t1 nW n j bl = none → ∃ v1, fX10_takes fu (mw T G nx z fi ar) z (nI j) 1 = some (0, mw T G nx z fi (ua ar 9 j v1))) ∧
    (∀ bl' v1, t1 nW n j bl = some (bl', v1) → fX10_takes fu (mw T G nx z fi ar) z (nI j) 1 = some (1, mw T G nx z fi (ua ar 9 j v1)) ∧ mB (ua ar 9 j v1) nW bl' ∧ srt nW 0 bl') := by
  have hW := hT.2.1
  have e1 : fX10_takes fu (mw T G nx z fi ar) z (nI j) 1 = fX10_takes_18 fu (mw T G nx z fi (ua ar 9 j (-1))) z (nI j) 1 := by
    simp +decide only [fX10_takes, Option.bind_some, bn2_s, zz_0, zz_1, if_true, if_false, ite_true, ite_false, vI_i, vR_n, vR_r, vR_v, reduceCtorEq, gI_m hT, gR_m hT, rcv_m hT, pV_m hT, aI_24 hT, sV_24 hT, aI_3 hT, sV_3 hT, aI_18 hT, sV_18 hT, aI_19 hT, sV_19 hT, aI_mZ hT, sV_mZ hT, ui_s, ui_n, ua_s, ua_k, hj]
  rw [e1]
  have g : ∀ (v1 : Int32) {k : Nat}, k ≠ 9 → ua ar 9 j v1 k = ar k := fun v1 k a => by funext q; simp [ua, a]
  obtain ⟨a1, a2⟩ := m_t18 (fu := fu) (G := G) (nx := nx) (ar := ua ar 9 j (-1)) hT h0 hj (by rw [g _ (by decide)]; exact h4) (by rw [g _ (by decide)]; exact h5) hn hB hs (by simp [ua]) hfu (kp := 1)
  refine ⟨fun h => ⟨-1, a1 h⟩, fun bl' v1 ht => ?_⟩
  obtain ⟨b1, b2, b3⟩ := t1_mB hB hW (cod_j hj) (by rw [jb_j j hj, g _ (by decide)]; exact h4) (by rw [zOf_j _ hj, g _ (by decide)]; exact h5) hs (by rw [bOf_j _ hj]; simp [ua]) ht
  rw [sB_j _ hj, ua_ua] at b1
  refine ⟨?_, b1, b2⟩
  rw [a2 bl' v1 ht, ua_ua]
  simp +decide only [fX10_takes_52, Option.bind_some, bn2_s, zz_0, zz_1, if_true, if_false, ite_true, ite_false, vI_i, vR_n, vR_r, vR_v, reduceCtorEq, gI_m hT, gR_m hT, rcv_m hT, pV_m hT, aI_24 hT, sV_24 hT, aI_3 hT, sV_3 hT, aI_18 hT, sV_18 hT, aI_19 hT, sV_19 hT, aI_mZ hT, sV_mZ hT, ui_s, ui_n, ua_s, ua_k]
end MK
