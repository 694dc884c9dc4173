/-! the class's line of READY jobs -/
def jch (T : Nat → Option (Nat × Nat)) (F : Nat → Nat → Value) : Value → List Nat → Prop
  | v, [] => v = .null
  | v, b :: r => v = .ref b ∧ kd T b = some 4 ∧ jch T F (F b 10) r
def insQ (P : Nat → Int32) (p : Nat) : List Nat → List Nat
  | [] => [p]
  | b :: r => if P b < P p then p :: b :: r else b :: insQ P p r
/-- how many of p's priority are ahead of p -/
def cntQ (P : Nat → Int32) (p : Nat) : List Nat → Nat
  | [] => 0
  | b :: r => if b = p then 0 else (if P b = P p then 1 else 0) + cntQ P p r
theorem jch_congr {T : Nat → Option (Nat × Nat)} {F F' : Nat → Nat → Value} : ∀ {l : List Nat} {v : Value}, jch T F v l → (∀ q ∈ l, F' q 10 = F q 10) → jch T F' v l
  | [], _, h, _ => h
  | b :: r, v, h, h1 => ⟨h.1, h.2.1, by rw [h1 b (by simp)]; exact jch_congr h.2.2 (fun q hq => h1 q (by simp [hq]))⟩
theorem jch_rf {T : Nat → Option (Nat × Nat)} {F : Nat → Nat → Value} {v : Value} : ∀ {l : List Nat}, jch T F v l → ∃ r, v = va_rf r
  | [], h => ⟨none, h⟩
  | b :: _, h => ⟨some b, h.1⟩
theorem jch_kd {T : Nat → Option (Nat × Nat)} {F : Nat → Nat → Value} : ∀ {l : List Nat} {v : Value}, jch T F v l → ∀ q ∈ l, kd T q = some 4
  | [], _, _, q, hq => by cases hq
  | b :: r, v, h, q, hq => by
    rcases List.mem_cons.mp hq with rfl | hq
    · exact h.2.1
    · exact jch_kd h.2.2 q hq
section XR
variable {T : Nat → Option (Nat × Nat)} {F : Nat → Nat → Value} {nx c fu : Nat} {P : Nat → Int32}
/-- the place of a link: the line's own, or a job's -/
def lkAt (c : Nat) (x : Option Nat) : Nat × Nat := match x with
  | none => (c + 5, 0)
  | some a => (a, 10)
def jfr (F F' : Nat → Nat → Value) (c p : Nat) (l : List Nat) : Prop := ∀ q f, ¬ (q = p ∧ f = 10) → ¬ (q = c + 5 ∧ f = 0) → ¬ (q ∈ l ∧ f = 10) → F' q f = F q f
theorem x_enter32 {p : Nat} {x : Option Nat} {l : List Nat} (h5 : kd T (c + 5) = some 7) (hp : kd T p = some 4) (hx : ∀ a, x = some a → kd T a = some 4 ∧ a ≠ p ∧ a ∉ l) (hpl : p ∉ l) (hc : jch T F (F (lkAt c x).1 (lkAt c x).2) l) :
    ∃ F', fX7_enter_32 fu (mkS T F nx) (c + 5) (some p) x = some ((), mkS T F' nx) ∧ F' (lkAt c x).1 (lkAt c x).2 = .ref p ∧ jch T F' (F' p 10) l ∧ ∀ q f, ¬ (q = p ∧ f = 10) → ¬ (q = (lkAt c x).1 ∧ f = (lkAt c x).2) → F' q f = F q f := by
  obtain ⟨r, hr⟩ := jch_rf hc
  have hl4 := jch_kd hc
  cases x with
  | none =>
    have hr' : F (c + 5) 0 = va_rf r := hr
    have hr2 : gR (mkS T F nx) 7 0 (some (c + 5)) = some r := by rw [gR_mk h5, hr']; exact vR_v r
    have hpc : p ≠ c + 5 := fun z => by rw [z, h5] at hp; cases hp
    refine ⟨u2 (u2 F p 10 (va_rf r)) (c + 5) 0 (.ref p), ?_, ?_, ?_, fun q f h1 h2 => ?_⟩
    · simp only [fX7_enter_32, hr2, pV_mk hp, pV_mk h5, va_rf, Option.bind_some, bn2_s, zz_0, zz_1, if_true, if_false, ite_true, ite_false, vI_i, vR_n, vR_r, vR_v, reduceCtorEq]
    · simp [lkAt, u2]
    · have : (u2 (u2 F p 10 (va_rf r)) (c + 5) 0 (.ref p)) p 10 = F (c + 5) 0 := by simp [u2, hr']
      rw [this]
      refine jch_congr hc (fun q hq => ?_)
      have q1 : q ≠ p := fun z => hpl (by rw [← z]; exact hq)
      simp [u2, q1]
    · simp only [lkAt] at h2
      simp only [u2, h1, h2, if_false]
  | some a =>
    obtain ⟨ha, hap, hal⟩ := hx a rfl
    have hr' : F a 10 = va_rf r := hr
    have hr2 : gR (mkS T F nx) 4 10 (some a) = some r := by rw [gR_mk ha, hr']; exact vR_v r
    refine ⟨u2 (u2 F p 10 (va_rf r)) a 10 (.ref p), ?_, ?_, ?_, fun q f h1 h2 => ?_⟩
    · simp only [fX7_enter_32, hr2, pV_mk hp, pV_mk ha, va_rf, Option.bind_some, bn2_s, zz_0, zz_1, if_true, if_false, ite_true, ite_false, vI_i, vR_n, vR_r, vR_v, reduceCtorEq]
    · simp [lkAt, u2]
    · have : (u2 (u2 F p 10 (va_rf r)) a 10 (.ref p)) p 10 = F a 10 := by simp [u2, hr', Ne.symm hap]
      rw [this]
      refine jch_congr hc (fun q hq => ?_)
      have q1 : q ≠ p := fun z => hpl (by rw [← z]; exact hq)
      have q2 : q ≠ a := fun z => hal (by rw [← z]; exact hq)
      simp [u2, q1, q2]
    · simp only [lkAt] at h2
      simp only [u2, h1, h2, if_false]
theorem x_enter_loop {p : Nat} (h5 : kd T (c + 5) = some 7) (hp : kd T p = some 4) (hpp : F p 4 = .int (P p)) : ∀ (m : Nat) (l : List Nat) (x r : Option Nat), (∀ a, x = some a → kd T a = some 4 ∧ a ≠ p ∧ a ∉ l) → p ∉ l → l.Nodup → jch T F (F (lkAt c x).1 (lkAt c x).2) l → F (lkAt c x).1 (lkAt c x).2 = va_rf r → (∀ b ∈ l, F b 4 = .int (P b)) → l.length < m →
    ∃ F', fX7_enter_7 fu m (mkS T F nx) (c + 5) (some p) x r = some ((), mkS T F' nx) ∧ jch T F' (F' (lkAt c x).1 (lkAt c x).2) (insQ P p l) ∧ ∀ q f, ¬ (q = p ∧ f = 10) → ¬ (q = (lkAt c x).1 ∧ f = (lkAt c x).2) → ¬ (q ∈ l ∧ f = 10) → F' q f = F q f := by
  intro m
  induction m with
  | zero => intro l x r _ _ _ _ _ _ hm; omega
  | succ m ih =>
    intro l x r hx hpl hnd hc hr hP hm
    obtain ⟨G, e1, e2, e3, e4⟩ := x_enter32 (fu := fu) (nx := nx) h5 hp hx hpl hc
    match l, hx, hpl, hnd, hc, hP, hm, e3 with
    | [], hx, hpl, hnd, hc, hP, hm, e3 =>
      unfold jch at hc
      have : r = none := by rw [hc] at hr; cases r with | none => rfl | some b => cases hr
      subst this
      refine ⟨G, ?_, ⟨e2, hp, e3⟩, fun q f h1 h2 _ => e4 q f h1 h2⟩
      rw [fX7_enter_7]
      simp only [e1, Option.bind_some, bn2_s, zz_0, zz_1, if_true, if_false, ite_true, ite_false, vI_i, vR_n, vR_r, vR_v, reduceCtorEq]
    | b :: t, hx, hpl, hnd, hc, hP, hm, e3 =>
      have hc' := hc
      obtain ⟨g1, g2, g3⟩ := hc
      have : r = some b := by rw [g1] at hr; cases r with | none => cases hr | some b' => cases hr; rfl
      subst this
      have hb4 : gI (mkS T F nx) 4 4 (some b) = some (P b) := by rw [gI_mk g2, hP b (by simp)]; rfl
      have hp4 : gI (mkS T F nx) 4 4 (some p) = some (P p) := by rw [gI_mk hp, hpp]; rfl
      rw [fX7_enter_7, if_neg (by simp)]
      simp only [hb4, hp4, insQ, Option.bind_some, bn2_s, zz_0, zz_1, if_true, if_false, ite_true, ite_false, vI_i, vR_n, vR_r, vR_v, reduceCtorEq]
      by_cases c1 : P b < P p
      · rw [if_pos c1, if_pos c1]
        exact ⟨G, e1, ⟨e2, hp, e3⟩, fun q f h1 h2 _ => e4 q f h1 h2⟩
      · rw [if_neg c1, if_neg c1]
        have hndt := List.nodup_cons.mp hnd
        have hpb : p ≠ b := fun z => hpl (by simp [z])
        obtain ⟨r2, hr2⟩ := jch_rf g3
        have hr3 : gR (mkS T F nx) 4 10 (some b) = some r2 := by rw [gR_mk g2, hr2]; exact vR_v r2
        obtain ⟨F', j1, j2, j3⟩ := ih t (some b) r2 (fun a ha => by cases ha; exact ⟨g2, Ne.symm hpb, hndt.1⟩) (fun z => hpl (by simp [z])) hndt.2 g3 hr2 (fun q hq => hP q (by simp [hq])) (by simp at hm; omega)
        refine ⟨F', by simp only [hr3, Option.bind_some, bn2_s, zz_0, zz_1, if_true, if_false, ite_true, ite_false, vI_i, vR_n, vR_r, vR_v, reduceCtorEq]; exact j1, ?_, fun q f h1 h2 h3 => ?_⟩
        · have : F' (lkAt c x).1 (lkAt c x).2 = F (lkAt c x).1 (lkAt c x).2 := by
            apply j3
            · cases x with
              | none => simp [lkAt]
              | some a => intro z; exact (hx a rfl).2.1 z.1
            · cases x with
              | none => simp [lkAt]
              | some a => intro z; exact (hx a rfl).2.2 (by rw [show a = b from z.1]; simp)
            · cases x with
              | none => simp [lkAt]
              | some a => intro z; exact (hx a rfl).2.2 (by simp [show a ∈ t from z.1])
          rw [this]
          exact ⟨g1, g2, j2⟩
        · refine j3 q f h1 (fun z => h3 ⟨?_, z.2⟩) (fun z => h3 ⟨by simp [z.1], z.2⟩)
          rw [show q = b from z.1]; simp
theorem x_enter {p : Nat} {l : List Nat} (h5 : kd T (c + 5) = some 7) (hp : kd T p = some 4) (hpp : F p 4 = .int (P p)) (hpl : p ∉ l) (hnd : l.Nodup) (hc : jch T F (F (c + 5) 0) l) (hP : ∀ b ∈ l, F b 4 = .int (P b)) (hfu : l.length < fu) :
    ∃ F', fX7_enter fu (mkS T F nx) (c + 5) (some p) = some ((), mkS T F' nx) ∧ jch T F' (F' (c + 5) 0) (insQ P p l) ∧ jfr F F' c p l := by
  obtain ⟨r, hr⟩ := jch_rf hc
  have hr2 : gR (mkS T F nx) 7 0 (some (c + 5)) = some r := by rw [gR_mk h5, hr]; exact vR_v r
  obtain ⟨F', j1, j2, j3⟩ := x_enter_loop (fu := fu) (nx := nx) h5 hp hpp fu l none r (fun a ha => by cases ha) hpl hnd hc hr hP hfu
  exact ⟨F', by simp only [fX7_enter, hr2, Option.bind_some, bn2_s, zz_0, zz_1, if_true, if_false, ite_true, ite_false, vI_i, vR_n, vR_r, vR_v, reduceCtorEq]; exact j1, j2, j3⟩
theorem x_leave_loop {p : Nat} (h5 : kd T (c + 5) = some 7) (hp : kd T p = some 4) : ∀ (m : Nat) (l : List Nat) (x r : Option Nat), (∀ a, x = some a → kd T a = some 4 ∧ a ≠ p ∧ a ∉ l) → l.Nodup → jch T F (F (lkAt c x).1 (lkAt c x).2) l → F (lkAt c x).1 (lkAt c x).2 = va_rf r → l.length < m →
    ∃ F', fX7_leave_7 fu m (mkS T F nx) (c + 5) (some p) x r = some ((), mkS T F' nx) ∧ jch T F' (F' (lkAt c x).1 (lkAt c x).2) (l.filter (fun b => !(b == p))) ∧ ∀ q f, ¬ (q = p ∧ f = 10) → ¬ (q = (lkAt c x).1 ∧ f = (lkAt c x).2) → ¬ (q ∈ l ∧ f = 10) → F' q f = F q f := by
  intro m
  induction m with
  | zero => intro l x r _ _ _ _ hm; omega
  | succ m ih =>
    intro l x r hx hnd hc hr hm
    match l, hx, hnd, hc, hm with
    | [], hx, hnd, hc, hm =>
      have hc' := hc
      unfold jch at hc
      have : r = none := by rw [hc] at hr; cases r with | none => rfl | some b => cases hr
      subst this
      refine ⟨F, ?_, hc', fun q f _ _ _ => rfl⟩
      rw [fX7_leave_7]
      simp only [Option.bind_some, bn2_s, zz_0, zz_1, if_true, if_false, ite_true, ite_false, vI_i, vR_n, vR_r, vR_v, reduceCtorEq]
    | b :: t, hx, hnd, hc, hm =>
      obtain ⟨g1, g2, g3⟩ := hc
      have : r = some b := by rw [g1] at hr; cases r with | none => cases hr | some b' => cases hr; rfl
      subst this
      have hndt := List.nodup_cons.mp hnd
      obtain ⟨r2, hr2⟩ := jch_rf g3
      have hr3 : gR (mkS T F nx) 4 10 (some b) = some r2 := by rw [gR_mk g2, hr2]; exact vR_v r2
      rw [fX7_leave_7, if_neg (by simp), List.filter_cons]
      by_cases e : b = p
      · subst e
        have hft : t.filter (fun q => !(q == b)) = t := by
          apply List.filter_eq_self.mpr
          intro q hq
          have : q ≠ b := fun z => hndt.1 (by rw [← z]; exact hq)
          simp [this]
        simp only [if_true, beq_self_eq_true, Bool.not_true, Bool.false_eq_true, if_false, hft, rcv_mk h5, Option.bind_some, bn2_s, zz_0, zz_1, if_true, if_false, ite_true, ite_false, vI_i, vR_n, vR_r, vR_v, reduceCtorEq]
        cases x with
        | none =>
          have hbc : b ≠ c + 5 := fun z => by rw [z, h5] at g2; cases g2
          refine ⟨u2 (u2 F (c + 5) 0 (va_rf r2)) b 10 .null, ?_, ?_, fun q f h1 h2 _ => ?_⟩
          · simp only [fX7_unlink, fX7_unlink_23, hr3, pV_mk h5, pV_mk hp, Option.bind_some, bn2_s, zz_0, zz_1, if_true, if_false, ite_true, ite_false, vI_i, vR_n, vR_r, vR_v, reduceCtorEq, va_rf]
          · have : (u2 (u2 F (c + 5) 0 (va_rf r2)) b 10 .null) (lkAt c none).1 (lkAt c none).2 = F b 10 := by simp [lkAt, u2, hr2]
            rw [this]
            refine jch_congr g3 (fun q hq => ?_)
            have q1 : q ≠ b := fun z => hndt.1 (by rw [← z]; exact hq)
            simp [u2, q1]
          · simp only [lkAt] at h2
            simp only [u2, h1, h2, if_false]
        | some a =>
          obtain ⟨ha, hap, hal⟩ := hx a rfl
          refine ⟨u2 (u2 F a 10 (va_rf r2)) b 10 .null, ?_, ?_, fun q f h1 h2 _ => ?_⟩
          · simp only [fX7_unlink, fX7_unlink_23, hr3, pV_mk ha, pV_mk hp, Option.bind_some, bn2_s, zz_0, zz_1, if_true, if_false, ite_true, ite_false, vI_i, vR_n, vR_r, vR_v, reduceCtorEq, va_rf]
          · have : (u2 (u2 F a 10 (va_rf r2)) b 10 .null) (lkAt c (some a)).1 (lkAt c (some a)).2 = F b 10 := by simp [lkAt, u2, hr2, hap]
            rw [this]
            refine jch_congr g3 (fun q hq => ?_)
            have q1 : q ≠ b := fun z => hndt.1 (by rw [← z]; exact hq)
            have q2 : q ≠ a := fun z => hal (by simp [← z, hq])
            simp [u2, q1, q2]
          · simp only [lkAt] at h2
            simp only [u2, h1, h2, if_false]
      · have e2 : ¬ (some b = some p) := fun z => e (Option.some.inj z)
        have e3 : (!(b == p)) = true := by simp [e]
        rw [if_neg e2, if_pos e3]
        obtain ⟨F', j1, j2, j3⟩ := ih t (some b) r2 (fun a ha => by cases ha; exact ⟨g2, e, hndt.1⟩) hndt.2 g3 hr2 (by simp at hm; omega)
        refine ⟨F', by simp only [hr3, Option.bind_some, bn2_s, zz_0, zz_1, if_true, if_false, ite_true, ite_false, vI_i, vR_n, vR_r, vR_v, reduceCtorEq]; exact j1, ?_, fun q f h1 h2 h3 => ?_⟩
        · have : F' (lkAt c x).1 (lkAt c x).2 = F (lkAt c x).1 (lkAt c x).2 := by
            apply j3
            · cases x with
              | none => simp [lkAt]
              | some a => intro z; exact (hx a rfl).2.1 z.1
            · cases x with
              | none => simp [lkAt]
              | some a => intro z; exact (hx a rfl).2.2 (by rw [show a = b from z.1]; simp)
            · cases x with
              | none => simp [lkAt]
              | some a => intro z; exact (hx a rfl).2.2 (by simp [show a ∈ t from z.1])
          rw [this]
          exact ⟨g1, g2, j2⟩
        · refine j3 q f h1 (fun z => h3 ⟨?_, z.2⟩) (fun z => h3 ⟨by simp [z.1], z.2⟩)
          rw [show q = b from z.1]; simp
theorem x_leave {p : Nat} {l : List Nat} (h5 : kd T (c + 5) = some 7) (hp : kd T p = some 4) (hnd : l.Nodup) (hc : jch T F (F (c + 5) 0) l) (hfu : l.length < fu) :
    ∃ F', fX7_leave fu (mkS T F nx) (c + 5) (some p) = some ((), mkS T F' nx) ∧ jch T F' (F' (c + 5) 0) (l.filter (fun b => !(b == p))) ∧ jfr F F' c p l := by
  obtain ⟨r, hr⟩ := jch_rf hc
  have hr2 : gR (mkS T F nx) 7 0 (some (c + 5)) = some r := by rw [gR_mk h5, hr]; exact vR_v r
  obtain ⟨F', j1, j2, j3⟩ := x_leave_loop (fu := fu) (nx := nx) h5 hp fu l none r (fun a ha => by cases ha) hnd hc hr hfu
  exact ⟨F', by simp only [fX7_leave, hr2, Option.bind_some, bn2_s, zz_0, zz_1, if_true, if_false, ite_true, ite_false, vI_i, vR_n, vR_r, vR_v, reduceCtorEq]; exact j1, j2, j3⟩
theorem x_ahead_loop {p : Nat} (hp : kd T p = some 4) (hpp : F p 4 = .int (P p)) : ∀ (m : Nat) (l : List Nat) (v : Value) (r : Option Nat) (k : Nat), jch T F v l → v = va_rf r → (∀ b ∈ l, F b 4 = .int (P b)) → l.length < m →
    fX7_countAheadOf_7 fu m (mkS T F nx) (some p) (nI k) r = some (if p ∈ l then nI (k + cntQ P p l) else -1, mkS T F nx) := by
  intro m
  induction m with
  | zero => intro l v r k _ _ _ hm; omega
  | succ m ih =>
    intro l v r k hc hr hP hm
    match l, hc, hP, hm with
    | [], hc, hP, hm =>
      unfold jch at hc
      have : r = none := by rw [hc] at hr; cases r with | none => rfl | some b => cases hr
      subst this
      rw [fX7_countAheadOf_7]
      simp [cntQ]
    | b :: t, hc, hP, hm =>
      obtain ⟨g1, g2, g3⟩ := hc
      have : r = some b := by rw [g1] at hr; cases r with | none => cases hr | some b' => cases hr; rfl
      subst this
      obtain ⟨r2, hr2⟩ := jch_rf g3
      have hr3 : gR (mkS T F nx) 4 10 (some b) = some r2 := by rw [gR_mk g2, hr2]; exact vR_v r2
      rw [fX7_countAheadOf_7, if_neg (by simp)]
      by_cases e : b = p
      · subst e
        simp [cntQ]
      · have e2 : ¬ (some b = some p) := fun z => e (Option.some.inj z)
        have hb4 : gI (mkS T F nx) 4 4 (some b) = some (P b) := by rw [gI_mk g2, hP b (by simp)]; rfl
        have hp4 : gI (mkS T F nx) 4 4 (some p) = some (P p) := by rw [gI_mk hp, hpp]; rfl
        have hi := fun k => ih t _ r2 k g3 hr2 (fun q hq => hP q (by simp [hq])) (by simp at hm; omega)
        simp only [e2, hb4, hp4, fX7_countAheadOf_32, hr3, nI_ad1, hi, Option.bind_some, bn2_s, zz_0, zz_1, if_true, if_false, ite_true, ite_false, vI_i, vR_n, vR_r, vR_v, reduceCtorEq, cntQ, e, List.mem_cons, Ne.symm e, false_or]
        by_cases c1 : P b = P p
        · simp only [c1, if_true, Nat.add_assoc]
        · simp only [c1, if_false, Nat.zero_add]
theorem x_ahead {p : Nat} {l : List Nat} (h5 : kd T (c + 5) = some 7) (hp : kd T p = some 4) (hpp : F p 4 = .int (P p)) (hc : jch T F (F (c + 5) 0) l) (hP : ∀ b ∈ l, F b 4 = .int (P b)) (hfu : l.length < fu) :
    fX7_countAheadOf fu (mkS T F nx) (c + 5) (some p) = some (if p ∈ l then nI (cntQ P p l) else -1, mkS T F nx) := by
  obtain ⟨r, hr⟩ := jch_rf hc
  have hr2 : gR (mkS T F nx) 7 0 (some (c + 5)) = some r := by rw [gR_mk h5, hr]; exact vR_v r
  have := x_ahead_loop (fu := fu) (nx := nx) hp hpp fu l _ r 0 hc hr hP hfu
  rw [Nat.zero_add] at this
  simp only [fX7_countAheadOf, hr2, Option.bind_some, bn2_s, zz_0, zz_1, if_true, if_false, ite_true, ite_false, vI_i, vR_n, vR_r, vR_v, reduceCtorEq]
  exact this
theorem x_len_loop : ∀ (m : Nat) (l : List Nat) (v : Value) (r : Option Nat) (k : Nat), jch T F v l → v = va_rf r → l.length < m → fX7_length_7 fu m (mkS T F nx) (nI k) r = some (nI (k + l.length), mkS T F nx) := by
  intro m
  induction m with
  | zero => intro l v r k _ _ hm; omega
  | succ m ih =>
    intro l v r k hc hr hm
    match l, hc, hm with
    | [], hc, hm =>
      unfold jch at hc
      have : r = none := by rw [hc] at hr; cases r with | none => rfl | some b => cases hr
      subst this
      rw [fX7_length_7]
      simp
    | b :: t, hc, hm =>
      obtain ⟨g1, g2, g3⟩ := hc
      have : r = some b := by rw [g1] at hr; cases r with | none => cases hr | some b' => cases hr; rfl
      subst this
      obtain ⟨r2, hr2⟩ := jch_rf g3
      have hr3 : gR (mkS T F nx) 4 10 (some b) = some r2 := by rw [gR_mk g2, hr2]; exact vR_v r2
      rw [fX7_length_7, if_neg (by simp)]
      simp only [hr3, nI_ad1, Option.bind_some, bn2_s, zz_0, zz_1, if_true, if_false, ite_true, ite_false, vI_i, vR_n, vR_r, vR_v, reduceCtorEq]
      rw [ih t _ r2 (k + 1) g3 hr2 (by simp at hm; omega)]
      simp only [List.length_cons]
      congr 2
      congr 1
      omega
theorem x_len {l : List Nat} (h5 : kd T (c + 5) = some 7) (hc : jch T F (F (c + 5) 0) l) (hfu : l.length < fu) : fX7_length fu (mkS T F nx) (c + 5) = some (nI l.length, mkS T F nx) := by
  obtain ⟨r, hr⟩ := jch_rf hc
  have hr2 : gR (mkS T F nx) 7 0 (some (c + 5)) = some r := by rw [gR_mk h5, hr]; exact vR_v r
  have := x_len_loop (fu := fu) (nx := nx) fu l _ r 0 hc hr hfu
  rw [Nat.zero_add] at this
  simp only [fX7_length, hr2, Option.bind_some, bn2_s, zz_0, zz_1, if_true, if_false, ite_true, ite_false, vI_i, vR_n, vR_r, vR_v, reduceCtorEq]
  exact this
end XR
