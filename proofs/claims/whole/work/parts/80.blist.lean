/-! lists of blocks by codes, and by addresses -/
def am (ad : Nat → Nat) (x : Nat × Nat × Nat) : Nat × Nat × Nat := (ad x.1, x.2)
theorem am_fst (ad : Nat → Nat) (l : bL) : (l.map (am ad)).map (fun x => x.1) = (l.map (fun x => x.1)).map ad := by
  induction l with
  | nil => rfl
  | cons x l ih => simp only [List.map_cons, ih, am]
theorem ff_am (ad : Nat → Nat) (nW k : Nat) : ∀ (l : bL) (e : Nat), ff nW k e (l.map (am ad)) = ff nW k e l
  | [], _ => rfl
  | (b, f, s) :: r, e => by simp only [List.map_cons, am, ff, ff_am ad nW k r]
theorem insF_am (ad : Nat → Nat) (nW k q : Nat) : ∀ (l : bL) (e : Nat), insF nW k (ad q) e (l.map (am ad)) = (insF nW k q e l).map (am ad)
  | [], _ => rfl
  | (b, f, s) :: r, e => by
    simp only [List.map_cons, am, insF]
    have := insF_am ad nW k q r (f + s)
    split
    · simp [am]
    · rw [this]; simp [am]
theorem insP_am (ad : Nat → Nat) (q g k : Nat) : ∀ (l : bL), insP (ad q) g k (l.map (am ad)) = (insP q g k l).map (am ad)
  | [] => rfl
  | (b, f, s) :: r => by
    simp only [List.map_cons, am, insP]
    have := insP_am ad q g k r
    split
    · rw [this]; simp [am]
    · simp [am]
theorem filter_am (ad : Nat → Nat) (q : Nat) : ∀ (l : bL), (∀ x ∈ l, ad x.1 = ad q → x.1 = q) → (l.map (am ad)).filter (fun x => !(x.1 == ad q)) = (l.filter (fun x => !(x.1 == q))).map (am ad)
  | [], _ => rfl
  | (b, f, s) :: r, h => by
    have ih := filter_am ad q r (fun x hx => h x (by simp [hx]))
    have hb := h (b, f, s) (by simp)
    simp only [List.map_cons, am, List.filter_cons]
    by_cases e : b = q
    · subst e; simp only [beq_self_eq_true, Bool.not_true, Bool.false_eq_true, if_false]; exact ih
    · have e2 : ¬ ad b = ad q := fun z => e (hb z)
      have e3 : (b == q) = false := by simp [e]
      have e4 : (ad b == ad q) = false := by simp [e2]
      simp only [e3, e4, Bool.not_false, if_true, List.map_cons, am]
      rw [ih]
theorem pkL_am (ad : Nat → Nat) : ∀ (l : bL) (e : Nat), pkL e (l.map (am ad)) = (pkL e l).map (am ad)
  | [], _ => rfl
  | (b, f, s) :: r, e => by simp only [List.map_cons, am, pkL, pkL_am ad r]
theorem pkW_am (ad : Nat → Nat) : ∀ (l : bL) (e : Nat) (w : Nat → Int32), pkW e (l.map (am ad)) w = pkW e l w
  | [], _, _ => rfl
  | (b, f, s) :: r, e, w => by simp only [List.map_cons, am, pkW, pkW_am ad r]
theorem pkN_am (ad : Nat → Nat) : ∀ (l : bL) (e : Nat), pkN e (l.map (am ad)) = pkN e l
  | [], _ => rfl
  | (b, f, s) :: r, e => by simp only [List.map_cons, am, pkN, pkN_am ad r]
theorem fsum_am (ad : Nat → Nat) (nW : Nat) : ∀ (l : bL) (e : Nat), fsum nW e (l.map (am ad)) = fsum nW e l
  | [], _ => rfl
  | (b, f, s) :: r, e => by simp only [List.map_cons, am, fsum, fsum_am ad nW r]
theorem fmax_am (ad : Nat → Nat) (nW : Nat) : ∀ (l : bL) (e m : Nat), fmax nW e (l.map (am ad)) m = fmax nW e l m
  | [], _, _ => rfl
  | (b, f, s) :: r, e, m => by simp only [List.map_cons, am, fmax, fmax_am ad nW r]
theorem fcnt_am (ad : Nat → Nat) (nW : Nat) : ∀ (l : bL) (e : Nat), fcnt nW e (l.map (am ad)) = fcnt nW e l
  | [], _ => rfl
  | (b, f, s) :: r, e => by simp only [List.map_cons, am, fcnt, fcnt_am ad nW r]
theorem srt_am (ad : Nat → Nat) (nW : Nat) : ∀ (l : bL) (e : Nat), srt nW e (l.map (am ad)) = srt nW e l
  | [], _ => rfl
  | (b, f, s) :: r, e => by simp only [List.map_cons, am, srt, srt_am ad nW r]
theorem srt_len {nW : Nat} : ∀ {l : bL} {e : Nat}, srt nW e l → e + l.length ≤ nW
  | [], _, h => h
  | (_, f, s) :: r, e, h => by
    have := srt_len h.2.2
    have := h.1
    have := h.2.1
    simp only [List.length_cons]; omega
theorem srt_filter {nW : Nat} (p : Nat × Nat × Nat → Bool) : ∀ {l : bL} {e : Nat}, srt nW e l → srt nW e (l.filter p)
  | [], _, h => h
  | (b, f, s) :: r, e, h => by
    have ih := srt_filter p h.2.2
    rw [List.filter_cons]
    split
    · exact ⟨h.1, h.2.1, ih⟩
    · exact srt_mono ih (by have := h.1; omega)
theorem ff_le {nW k : Nat} : ∀ {l : bL} {e e' : Nat}, srt nW e l → ff nW k e l = some e' → e ≤ e' ∧ e' + k ≤ nW
  | [], e, e', h, h1 => by
    unfold ff at h1
    split at h1
    · injection h1 with h1; omega
    · cases h1
  | (b, f, s) :: r, e, e', h, h1 => by
    have h2 := srt_le h.2.2
    unfold ff at h1
    split at h1
    · injection h1 with h1; omega
    · have := ff_le h.2.2 h1
      have := h.1
      omega
theorem srt_insF {nW k q : Nat} (hk : 0 < k) : ∀ {l : bL} {e e' : Nat}, srt nW e l → ff nW k e l = some e' → srt nW e (insF nW k q e l)
  | [], e, e', h, h1 => by
    have := ff_le h h1
    unfold ff at h1
    split at h1
    · injection h1 with h1; exact ⟨Nat.le_refl _, hk, by show e + k ≤ nW; omega⟩
    · cases h1
  | (b, f, s) :: r, e, e', h, h1 => by
    unfold ff at h1
    unfold insF
    split at h1
    · rename_i c
      rw [if_pos c]
      exact ⟨Nat.le_refl _, hk, c, h.2⟩
    · rename_i c
      rw [if_neg c]
      exact ⟨h.1, h.2.1, srt_insF hk h.2.2 h1⟩
theorem mem_insF {nW k q : Nat} : ∀ {l : bL} {e e' : Nat}, ff nW k e l = some e' → ∀ x, x ∈ insF nW k q e l ↔ x = (q, e', k) ∨ x ∈ l
  | [], e, e', h1, x => by
    unfold ff at h1
    unfold insF
    split at h1
    · injection h1 with h1; subst h1; simp
    · cases h1
  | (b, f, s) :: r, e, e', h1, x => by
    unfold ff at h1
    unfold insF
    split at h1
    · rename_i c
      injection h1 with h1; subst h1
      rw [if_pos c]; simp
    · rename_i c
      rw [if_neg c, List.mem_cons, mem_insF h1 x, List.mem_cons]
      constructor
      · rintro (h | h | h)
        · exact Or.inr (Or.inl h)
        · exact Or.inl h
        · exact Or.inr (Or.inr h)
      · rintro (h | h | h)
        · exact Or.inr (Or.inl h)
        · exact Or.inl h
        · exact Or.inr (Or.inr h)
/-- blocks of a list by places do not meet -/
theorem srt_disj {nW : Nat} : ∀ {l : bL} {e : Nat}, srt nW e l → ∀ x ∈ l, ∀ y ∈ l, x = y ∨ x.2.1 + x.2.2 ≤ y.2.1 ∨ y.2.1 + y.2.2 ≤ x.2.1
  | [], _, _, x, hx, _, _ => by cases hx
  | (b, f, s) :: r, e, h, x, hx, y, hy => by
    rcases List.mem_cons.mp hx with rfl | hx
    · rcases List.mem_cons.mp hy with rfl | hy
      · exact Or.inl rfl
      · exact Or.inr (Or.inl (srt_mem h.2.2 y hy).1)
    · rcases List.mem_cons.mp hy with rfl | hy
      · exact Or.inr (Or.inr (srt_mem h.2.2 x hx).1)
      · exact srt_disj h.2.2 x hx y hy
theorem srt_nd {nW : Nat} : ∀ {l : bL} {e : Nat}, srt nW e l → (∀ x ∈ l, ∀ y ∈ l, x.1 = y.1 → x = y) → (l.map (fun x => x.1)).Nodup
  | [], _, _, _ => List.nodup_nil
  | (b, f, s) :: r, e, h, hc => by
    have ih := srt_nd h.2.2 (fun x hx y hy => hc x (by simp [hx]) y (by simp [hy]))
    rw [List.map_cons, List.nodup_cons]
    refine ⟨fun hm => ?_, ih⟩
    obtain ⟨y, hy, e1⟩ := List.mem_map.mp hm
    have e2 := hc y (by simp [hy]) (b, f, s) (by simp) e1
    have := (srt_mem h.2.2 y hy).1
    have := h.2.1
    rw [e2] at *
    simp only at *
    omega
theorem insP_back {nW q g k : Nat} : ∀ {l : bL} {e : Nat}, srt nW e l → (q, g, k) ∈ l → (l.map (fun x => x.1)).Nodup → insP q g k (l.filter (fun x => !(x.1 == q))) = l
  | [], _, _, hm, _ => by cases hm
  | (b, f, s) :: r, e, h, hm, hn => by
    rw [List.map_cons, List.nodup_cons] at hn
    by_cases c : b = q
    · subst c
      have e1 : (b, g, k) = (b, f, s) := by
        rcases List.mem_cons.mp hm with hm | hm
        · exact hm
        · exact absurd (List.mem_map.mpr ⟨_, hm, rfl⟩) hn.1
      injection e1 with _ e1
      injection e1 with e1 e2
      subst e1 e2
      have hf : r.filter (fun x => !(x.1 == b)) = r := by
        rw [List.filter_eq_self]
        intro x hx
        have : x.1 ≠ b := fun z => hn.1 (List.mem_map.mpr ⟨x, hx, z⟩)
        simp [this]
      rw [List.filter_cons]
      simp only [beq_self_eq_true, Bool.not_true, Bool.false_eq_true, if_false, hf]
      match r, h with
      | [], _ => rfl
      | (b2, f2, s2) :: r2, h =>
        have := h.2.2.1
        have := h.2.1
        unfold insP
        rw [if_neg (by omega)]
    · have hm2 : (q, g, k) ∈ r := by
        rcases List.mem_cons.mp hm with hm | hm
        · injection hm with hm; exact absurd hm.symm c
        · exact hm
      have h3 := (srt_mem h.2.2 _ hm2).1
      have h4 := h.2.1
      rw [List.filter_cons]
      have c2 : (b == q) = false := by simp [c]
      simp only [c2, Bool.not_false, if_true]
      unfold insP
      rw [if_pos (by simp only at h3; omega), insP_back h.2.2 hm2 hn.2]
/-- packed: the same codes and sizes; words come along -/
theorem pkL_fst : ∀ (l : bL) (e : Nat), (pkL e l).map (fun x => x.1) = l.map (fun x => x.1)
  | [], _ => rfl
  | (b, f, s) :: r, e => by simp only [pkL, List.map_cons, pkL_fst r]
theorem srt_pkL {nW : Nat} : ∀ {l : bL} {e e' : Nat}, srt nW e l → e' ≤ e → srt nW e' (pkL e' l)
  | [], e, e', h, h1 => by unfold pkL srt; unfold srt at h; omega
  | (b, f, s) :: r, e, e', h, h1 => ⟨Nat.le_refl _, h.2.1, srt_pkL h.2.2 (by have := h.1; omega)⟩
theorem pkW_lo : ∀ (l : bL) (e : Nat) (w : Nat → Int32) (p : Nat), p < e → pkW e l w p = w p
  | [], _, _, _, _ => rfl
  | (b, f, s) :: r, e, w, p, h => by
    unfold pkW
    rw [pkW_lo r (e + s) _ p (by omega)]
    split
    · rfl
    · simp only [va_cpy]; rw [if_neg (by omega)]
theorem pkW_mem {nW : Nat} : ∀ {l : bL} {e e' : Nat} {w : Nat → Int32}, srt nW e l → e' ≤ e → ∀ x ∈ l, ∃ g, (x.1, g, x.2.2) ∈ pkL e' l ∧ ∀ i, i < x.2.2 → pkW e' l w (g + i) = w (x.2.1 + i)
  | [], _, _, _, _, _, x, hx => by cases hx
  | (b, f, s) :: r, e, e', w, h, h1, x, hx => by
    have h0 := h.1
    rcases List.mem_cons.mp hx with rfl | hx
    · refine ⟨e', by simp [pkL], fun i hi => ?_⟩
      unfold pkW
      rw [pkW_lo _ _ _ _ (by simp only at hi; omega)]
      simp only at hi ⊢
      split
      · rename_i c; rw [c]
      · simp only [va_cpy]; rw [if_pos (by omega)]; congr 1; omega
    · obtain ⟨g, g1, g2⟩ := pkW_mem (w := if f = e' then w else va_cpy w w f e' s) h.2.2 (show e' + s ≤ f + s by omega) x hx
      refine ⟨g, by simp [pkL, g1], fun i hi => ?_⟩
      unfold pkW
      rw [g2 i hi]
      have := (srt_mem h.2.2 x hx).1
      split
      · rfl
      · simp only [va_cpy]; rw [if_neg (by omega)]
