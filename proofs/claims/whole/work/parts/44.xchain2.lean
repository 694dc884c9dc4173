section XC2
variable {T : Nat → Option (Nat × Nat)} {F : Nat → Nat → Value} {nx c nW fu : Nat} {w : Nat → Int32}
/-- a block that is given back -/
def gbF (F : Nat → Nat → Value) (p : Nat) : Nat → Nat → Value := u2 (u2 (u2 F p 0 (.int (-1))) p 1 (.int 0)) p 2 .null
theorem gbF_o {p q : Nat} (h : q ≠ p) : gbF F p q = F q := by
  funext f
  simp [gbF, u2, h]
theorem gbF_0 {p : Nat} : gbF F p p 0 = .int (-1) := by simp [gbF, u2]
theorem gbF_1 {p : Nat} : gbF F p p 1 = .int 0 := by simp [gbF, u2]
theorem x_gb36 {p : Nat} (hp : kd T p = some 1) : fX0_giveBack_36 fu (mkS T F nx) (some p) = some ((), mkS T (gbF F p) nx) := by
  simp only [fX0_giveBack_36, pV_mk hp, Option.bind_some, bn2_s, zz_0, zz_1, if_true, if_false, ite_true, ite_false, vI_i, vR_n, vR_r, vR_v, reduceCtorEq]
  rfl
theorem x_gb_loop {p : Nat} (hp : kd T p = some 1) : ∀ (m : Nat) (l : bL) (a : Nat), bch T F a l → kd T a = some 1 → p ≠ a → (a :: l.map (fun x => x.1)).Nodup → l.length + 1 < m →
    ∃ F', fX0_giveBack_5 fu m (mkS T F nx) (some p) (some a) = some ((), mkS T F' nx) ∧ bch T F' a (l.filter (fun x => !(x.1 == p))) ∧ F' p 0 = .int (-1) ∧ F' p 1 = .int 0 ∧ bfr F F' p (a :: l.map (fun x => x.1)) := by
  intro m
  induction m with
  | zero => intro l a _ _ _ _ hm; omega
  | succ m ih =>
    intro l a hb ha hpa hnd hm
    have hal : a ∉ l.map (fun x => x.1) := (List.nodup_cons.mp hnd).1
    rw [fX0_giveBack_5, if_neg (by simp)]
    match l, hb, hnd, hm, hal with
    | [], hb, hnd, hm, hal =>
      unfold bch at hb
      have hn : gR (mkS T F nx) 1 2 (some a) = some none := by rw [gR_mk ha, hb]; rfl
      cases m with
      | zero => simp at hm
      | succ m =>
        refine ⟨gbF F p, ?_, ?_, gbF_0, gbF_1, ⟨fun q h1 _ => gbF_o h1, fun q h1 f _ => by rw [gbF_o h1]⟩⟩
        · simp only [hn, Option.bind_some, bn2_s, zz_0, zz_1, if_true, if_false, ite_true, ite_false, vI_i, vR_n, vR_r, vR_v, reduceCtorEq]
          rw [fX0_giveBack_5]
          simp only [x_gb36 hp, Option.bind_some, bn2_s, zz_0, zz_1, if_true, if_false, ite_true, ite_false, vI_i, vR_n, vR_r, vR_v, reduceCtorEq]
        · show gbF F p a 2 = .null
          rw [gbF_o (Ne.symm hpa)]; exact hb
    | (b, f, s) :: t, hb, hnd, hm, hal =>
      obtain ⟨g1, g2, g3, g4, g5⟩ := hb
      have hn : gR (mkS T F nx) 1 2 (some a) = some (some b) := by rw [gR_mk ha, g1]; rfl
      have hnd2 := (List.nodup_cons.mp hnd).2
      have hbt : b ∉ t.map (fun x => x.1) := (List.nodup_cons.mp hnd2).1
      simp only [hn, Option.bind_some, bn2_s, zz_0, zz_1, if_true, if_false, ite_true, ite_false, vI_i, vR_n, vR_r, vR_v, reduceCtorEq]
      by_cases e : b = p
      · subst e
        obtain ⟨r, hr⟩ := bch_rf g5
        have hr2 : gR (mkS T F nx) 1 2 (some b) = some r := by rw [gR_mk g2, hr]; cases r <;> rfl
        have hab : a ≠ b := Ne.symm hpa
        refine ⟨gbF (u2 F a 2 (va_rf r)) b, ?_, ?_, gbF_0, gbF_1, ⟨fun q h1 h2 => ?_, fun q h1 f hf => ?_⟩⟩
        · simp only [hr2, pV_mk ha, x_gb36 hp, Option.bind_some, bn2_s, zz_0, zz_1, if_true, if_false, ite_true, ite_false, vI_i, vR_n, vR_r, vR_v, reduceCtorEq]
        · rw [List.filter_cons]
          simp only [beq_self_eq_true, Bool.not_true, Bool.false_eq_true, if_false]
          have hf : t.filter (fun x => !(x.1 == b)) = t := by
            apply List.filter_eq_self.mpr
            intro x hx
            have : x.1 ≠ b := fun z => hbt (by rw [← z]; exact List.mem_map_of_mem hx)
            simp [this]
          rw [hf]
          have h2 : gbF (u2 F a 2 (va_rf r)) b a 2 = F b 2 := by rw [gbF_o hab]; simp [u2, hr]
          have h3 : ∀ q ∈ t.map (fun x => x.1), ∀ f, f ≤ 2 → gbF (u2 F a 2 (va_rf r)) b q f = F q f := by
            intro q hq f _
            have q1 : q ≠ b := fun z => hbt (by rw [← z]; exact hq)
            have q2 : q ≠ a := fun z => hal (by simp [← z]; exact Or.inr (by simpa using hq))
            rw [gbF_o q1]; simp [u2, q2]
          match t, g5, h3 with
          | [], g5, _ => unfold bch at g5 ⊢; rw [h2]; exact g5
          | (b2, f2, s2) :: t2, g5, h3 =>
            obtain ⟨i1, i2, i3, i4, i5⟩ := g5
            have q := h3 b2 (by simp)
            exact ⟨by rw [h2]; exact i1, i2, by rw [q 0 (by omega)]; exact i3, by rw [q 1 (by omega)]; exact i4, bch_congr i5 (q 2 (by omega)) (fun q hq => h3 q (by simp at hq ⊢; exact Or.inr hq))⟩
        · have q2 : q ≠ a := fun z => h2 (by simp [z])
          rw [gbF_o h1]; funext f; simp [u2, q2]
        · rw [gbF_o h1]; simp [u2, hf]
      · have e2 : ¬ (some b = some p) := fun z => e (Option.some.inj z)
        rw [if_neg e2]
        obtain ⟨F', j1, j2, j3, j4, j5⟩ := ih t b g5 g2 (Ne.symm e) hnd2 (by simp at hm; omega)
        have haF : F' a = F a := j5.1 a (Ne.symm hpa) (fun z => hal (by simpa using z))
        have hbF : ∀ f, f ≠ 2 → F' b f = F b f := j5.2 b e
        refine ⟨F', j1, ?_, j3, j4, j5.more (fun q hq => by simp at hq ⊢; exact Or.inr hq)⟩
        rw [List.filter_cons]
        simp only [beq_iff_eq, e, Bool.not_eq_true', if_pos, beq_eq_false_iff_ne, ne_eq, not_false_eq_true, if_true]
        exact ⟨by rw [haF]; exact g1, g2, by rw [hbF 0 (by omega)]; exact g3, by rw [hbF 1 (by omega)]; exact g4, j2⟩
theorem x_giveBack (h : xA T F c nW w) {p : Nat} {l : bL} (hp : kd T p = some 1) (hb : bch T F (c + 3) l) (hpc : p ≠ c + 3) (hnd : ((c + 3) :: l.map (fun x => x.1)).Nodup) (hfu : l.length + 1 < fu) :
    ∃ F', fX0_giveBack fu (mkS T F nx) (c + 1) (some p) = some ((), mkS T F' nx) ∧ bch T F' (c + 3) (l.filter (fun x => !(x.1 == p))) ∧ F' p 0 = .int (-1) ∧ F' p 1 = .int 0 ∧ bfr F F' p ((c + 3) :: l.map (fun x => x.1)) := by
  obtain ⟨F', j1, j2⟩ := x_gb_loop (fu := fu) (nx := nx) hp fu l (c + 3) hb h.2.2.2.2.1 hpc hnd hfu
  refine ⟨F', ?_, j2⟩
  simp only [fX0_giveBack, gR_mk h.1, h.2.2.2.2.2.2.1, Option.bind_some, bn2_s, zz_0, zz_1, if_true, if_false, ite_true, ite_false, vI_i, vR_n, vR_r, vR_v, reduceCtorEq]
  exact j1
theorem x_take (h : xA T F c nW w) {p k : Nat} {l : bL} (hp : kd T p = some 1) (hk : 0 < k) (hk2 : k ≤ 3000) (h0 : F (c + 3) 0 = .int 0) (h1 : F (c + 3) 1 = .int 0) (hb : bch T F (c + 3) l) (hs : srt nW 0 l) (hpc : p ≠ c + 3) (hpl : p ∉ l.map (fun x => x.1)) (hnd : ((c + 3) :: l.map (fun x => x.1)).Nodup) (hfu : l.length + 1 < fu) :
    (ff nW k 0 l = none → fX0_take fu (mkS T F nx) (c + 1) (some p) (nI k) = some (0, mkS T F nx)) ∧
    (∀ e', ff nW k 0 l = some e' → ∃ F', fX0_take fu (mkS T F nx) (c + 1) (some p) (nI k) = some (1, mkS T F' nx) ∧ bch T F' (c + 3) (insF nW k p 0 l) ∧ F' p 0 = .int (nI e') ∧ F' p 1 = .int (nI k) ∧ bfr F F' p ((c + 3) :: l.map (fun x => x.1))) := by
  have e1 : fX0_take fu (mkS T F nx) (c + 1) (some p) (nI k) = fX0_take_11 fu fu (mkS T F nx) (c + 1) (some p) (nI k) (some (c + 3)) := by
    have : (0 : Int32) < nI k := nI_lt (a := 0) hk (by omega)
    simp only [fX0_take, this, gR_mk h.1, h.2.2.2.2.2.2.1, Option.bind_some, bn2_s, zz_0, zz_1, if_true, if_false, ite_true, ite_false, vI_i, vR_n, vR_r, vR_v, reduceCtorEq]
  rw [e1]
  exact x_take_loop h hp hk hk2 fu l (c + 3) 0 0 0 hb h.2.2.2.2.1 h0 h1 rfl hs hpc hpl hnd hfu
theorem x_take0 {p : Nat} {a0 : Nat} : fX0_take fu (mkS T F nx) a0 (some p) 0 = some (1, mkS T F nx) := by
  simp only [fX0_take]
  rw [if_neg (by decide)]
  rfl
/-- put at a known place: by the first word -/
def insP (p g k : Nat) : bL → bL
  | [] => [(p, g, k)]
  | (b, f, s) :: r => if f < g then (b, f, s) :: insP p g k r else (p, g, k) :: (b, f, s) :: r
theorem x_putAt_loop (h : xA T F c nW w) {p g k : Nat} (hp : kd T p = some 1) (hg : g ≤ 3000) : ∀ (m : Nat) (l : bL) (a : Nat), bch T F a l → kd T a = some 1 → srt nW 0 l → p ≠ a → p ∉ l.map (fun x => x.1) → (a :: l.map (fun x => x.1)).Nodup → l.length < m →
    ∃ F', (∃ r, F a 2 = va_rf r ∧ fX0_putAt_20 fu m (mkS T F nx) (c + 1) (some p) (nI g) (nI k) (some a) r = some ((), mkS T F' nx)) ∧ bch T F' a (insP p g k l) ∧ F' p 0 = .int (nI g) ∧ F' p 1 = .int (nI k) ∧ bfr F F' p (a :: l.map (fun x => x.1)) := by
  intro m
  induction m with
  | zero => intro l a _ _ _ _ _ _ hm; omega
  | succ m ih =>
    intro l a hb ha hs hpa hpl hnd hm
    have hW := h.2.2.2.1
    have hal : a ∉ l.map (fun x => x.1) := (List.nodup_cons.mp hnd).1
    obtain ⟨r, hr⟩ := bch_rf hb
    have hlk := x_link (fu := fu) (nx := nx) (a0 := c + 1) (e := g) (k := k) ha hp hpa hr
    match l, hb, hs, hpl, hnd, hm, hal with
    | [], hb, hs, hpl, hnd, hm, hal =>
      have hb' := hb
      unfold bch at hb
      refine ⟨lkF F a p g k, ⟨none, hb, ?_⟩, lk_bch hb' hp hpa hpl hal, lkF_0, lkF_1, lk_bfr (by simp)⟩
      rw [fX0_putAt_20]
      simp only [fX0_putAt_48, rcv_mk h.1, hlk, Option.bind_some, bn2_s, zz_0, zz_1, if_true, if_false, ite_true, ite_false, vI_i, vR_n, vR_r, vR_v, reduceCtorEq]
    | (b, f, s) :: t, hb, hs, hpl, hnd, hm, hal =>
      have hb' := hb
      obtain ⟨g1, g2, g3, g4, g5⟩ := hb
      have hs0 := srt_le hs.2.2
      have hb0 : gI (mkS T F nx) 1 0 (some b) = some (nI f) := by rw [gI_mk g2, g3]; rfl
      simp only [insP]
      by_cases c1 : f < g
      · have hnd2 := (List.nodup_cons.mp hnd).2
        have hpb : p ≠ b := fun z => hpl (by simp [z])
        have hpt : p ∉ t.map (fun x => x.1) := fun z => hpl (by simp at z ⊢; exact Or.inr z)
        have hst : srt nW 0 t := by
          match t, hs.2.2 with
          | [], hs => exact Nat.zero_le _
          | (_, _, _) :: _, hs => exact ⟨Nat.zero_le _, hs.2⟩
        obtain ⟨F', ⟨r2, q1, q2⟩, j2, j3, j4, j5⟩ := ih t b g5 g2 hst hpb hpt hnd2 (by simp at hm; omega)
        have hr2 : gR (mkS T F nx) 1 2 (some b) = some r2 := by rw [gR_mk g2, q1]; exact vR_v r2
        have haF : F' a = F a := j5.1 a (Ne.symm hpa) (fun z => hal (by simpa using z))
        have hbF : ∀ f, f ≠ 2 → F' b f = F b f := j5.2 b (Ne.symm hpb)
        refine ⟨F', ⟨some b, g1, ?_⟩, ?_, j3, j4, j5.more (fun q hq => by simp at hq ⊢; exact Or.inr hq)⟩
        · rw [fX0_putAt_20, if_neg (by simp)]
          simp only [hb0, Option.bind_some, bn2_s, zz_0, zz_1, if_true, if_false, ite_true, ite_false, vI_i, vR_n, vR_r, vR_v, reduceCtorEq]
          rw [if_neg (nI_ge c1 (by omega))]
          simp only [hr2, Option.bind_some, bn2_s, zz_0, zz_1, if_true, if_false, ite_true, ite_false, vI_i, vR_n, vR_r, vR_v, reduceCtorEq]
          exact q2
        · rw [if_pos c1]
          exact ⟨by rw [haF]; exact g1, g2, by rw [hbF 0 (by omega)]; exact g3, by rw [hbF 1 (by omega)]; exact g4, j2⟩
      · rw [if_neg c1]
        refine ⟨lkF F a p g k, ⟨some b, g1, ?_⟩, lk_bch hb' hp hpa hpl hal, lkF_0, lkF_1, lk_bfr (by simp)⟩
        rw [fX0_putAt_20, if_neg (by simp)]
        simp only [hb0, Option.bind_some, bn2_s, zz_0, zz_1, if_true, if_false, ite_true, ite_false, vI_i, vR_n, vR_r, vR_v, reduceCtorEq]
        rw [if_pos (nI_le (by omega) (by omega))]
        simp only [fX0_putAt_48, rcv_mk h.1, hlk, Option.bind_some, bn2_s, zz_0, zz_1, if_true, if_false, ite_true, ite_false, vI_i, vR_n, vR_r, vR_v, reduceCtorEq]
theorem x_putAt (h : xA T F c nW w) {p g k : Nat} {l : bL} (hp : kd T p = some 1) (hg : g ≤ 3000) (hk : 0 < k) (hk2 : k ≤ 3000) (hb : bch T F (c + 3) l) (hs : srt nW 0 l) (hpc : p ≠ c + 3) (hpl : p ∉ l.map (fun x => x.1)) (hnd : ((c + 3) :: l.map (fun x => x.1)).Nodup) (hfu : l.length < fu) :
    ∃ F', fX0_putAt fu (mkS T F nx) (c + 1) (some p) (nI g) (nI k) = some ((), mkS T F' nx) ∧ bch T F' (c + 3) (insP p g k l) ∧ F' p 0 = .int (nI g) ∧ F' p 1 = .int (nI k) ∧ bfr F F' p ((c + 3) :: l.map (fun x => x.1)) := by
  obtain ⟨F', ⟨r, q1, q2⟩, j⟩ := x_putAt_loop (fu := fu) (nx := nx) (g := g) (k := k) h hp hg fu l (c + 3) hb h.2.2.2.2.1 hs hpc hpl hnd hfu
  refine ⟨F', ?_, j⟩
  have h1 : (0 : Int32) < nI k := nI_lt (a := 0) hk (by omega)
  have hr2 : gR (mkS T F nx) 1 2 (some (c + 3)) = some r := by rw [gR_mk h.2.2.2.2.1, q1]; exact vR_v r
  simp only [fX0_putAt, h1, gR_mk h.1, h.2.2.2.2.2.2.1, hr2, Option.bind_some, bn2_s, zz_0, zz_1, if_true, if_false, ite_true, ite_false, vI_i, vR_n, vR_r, vR_v, reduceCtorEq]
  exact q2
theorem x_putAt0 {p a0 : Nat} {x : Int32} : fX0_putAt fu (mkS T F nx) a0 (some p) x 0 = some ((), mkS T F nx) := by
  simp only [fX0_putAt]
  rw [if_neg (by decide)]
end XC2
