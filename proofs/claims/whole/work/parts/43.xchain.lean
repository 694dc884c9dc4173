/-! chains of blocks: (address, first, size) -/
abbrev bL : Type := List (Nat × Nat × Nat)
def bch (T : Nat → Option (Nat × Nat)) (F : Nat → Nat → Value) : Nat → bL → Prop
  | a, [] => F a 2 = .null
  | a, (b, f, s) :: r => F a 2 = .ref b ∧ kd T b = some 1 ∧ F b 0 = .int (nI f) ∧ F b 1 = .int (nI s) ∧ bch T F b r
def srt (nW : Nat) : Nat → bL → Prop
  | e, [] => e ≤ nW
  | e, (_, f, s) :: r => e ≤ f ∧ 0 < s ∧ srt nW (f + s) r
/-- first fit behind e -/
def ff (nW k : Nat) : Nat → bL → Option Nat
  | e, [] => if e + k ≤ nW then some e else none
  | e, (_, f, s) :: r => if e + k ≤ f then some e else ff nW k (f + s) r
def insF (nW k p : Nat) : Nat → bL → bL
  | e, [] => [(p, e, k)]
  | e, (b, f, s) :: r => if e + k ≤ f then (p, e, k) :: (b, f, s) :: r else (b, f, s) :: insF nW k p (f + s) r
theorem srt_le {nW : Nat} : ∀ {l : bL} {e : Nat}, srt nW e l → e ≤ nW
  | [], _, h => h
  | (_, _, _) :: _, _, h => by have := srt_le h.2.2; have := h.1; omega
theorem srt_mem {nW : Nat} : ∀ {l : bL} {e : Nat}, srt nW e l → ∀ x ∈ l, e ≤ x.2.1 ∧ 0 < x.2.2 ∧ x.2.1 + x.2.2 ≤ nW
  | [], _, _, x, hx => by cases hx
  | (b, f, s) :: r, e, h, x, hx => by
    have h1 := srt_le h.2.2
    rcases List.mem_cons.mp hx with rfl | hx
    · exact ⟨h.1, h.2.1, h1⟩
    · have h2 := srt_mem h.2.2 x hx
      have := h.1
      exact ⟨by omega, h2.2⟩
theorem bch_congr {T : Nat → Option (Nat × Nat)} {F F' : Nat → Nat → Value} : ∀ {l : bL} {a : Nat}, bch T F a l → F' a 2 = F a 2 → (∀ q ∈ l.map (fun x => x.1), ∀ f, f ≤ 2 → F' q f = F q f) → bch T F' a l
  | [], _, h, h1, _ => by unfold bch at h ⊢; rw [h1]; exact h
  | (b, f, s) :: r, a, h, h1, h2 => by
    obtain ⟨g1, g2, g3, g4, g5⟩ := h
    have hb := h2 b (by simp)
    exact ⟨by rw [h1]; exact g1, g2, by rw [hb 0 (by omega)]; exact g3, by rw [hb 1 (by omega)]; exact g4, bch_congr g5 (hb 2 (by omega)) (fun q hq => h2 q (by simp at hq ⊢; exact Or.inr hq))⟩
theorem bch_kd {T : Nat → Option (Nat × Nat)} {F : Nat → Nat → Value} : ∀ {l : bL} {a : Nat}, bch T F a l → ∀ q ∈ l.map (fun x => x.1), kd T q = some 1
  | [], _, _, q, hq => by cases hq
  | (b, f, s) :: r, a, h, q, hq => by
    rcases List.mem_cons.mp hq with rfl | hq
    · exact h.2.1
    · exact bch_kd h.2.2.2.2 q hq
section XC
variable {T : Nat → Option (Nat × Nat)} {F : Nat → Nat → Value} {nx c nW fu : Nat} {w : Nat → Int32}
theorem x_end {a f s : Nat} (ha : kd T a = some 1) (h0 : F a 0 = .int (nI f)) (h1 : F a 1 = .int (nI s)) : fX1_end fu (mkS T F nx) a = some (nI (f + s), mkS T F nx) := by
  simp only [fX1_end, gI_mk ha, h0, h1, nI_add, Option.bind_some, bn2_s, zz_0, zz_1, if_true, if_false, ite_true, ite_false, vI_i, vR_n, vR_r, vR_v, reduceCtorEq]
theorem x_gapN (h : xA T F c nW w) {a f s : Nat} (ha : kd T a = some 1) (h0 : F a 0 = .int (nI f)) (h1 : F a 1 = .int (nI s)) (h2 : F a 2 = .null) (hl : f + s ≤ nW) : fX0_gapBehind fu (mkS T F nx) (c + 1) (some a) = some (nI (nW - (f + s)), mkS T F nx) := by
  obtain ⟨k1, k2, k3, k4, k5, k6, k7, k8⟩ := h
  have g := pk_sub hl
  simp only [fX0_gapBehind, fX0_gapBehind_22, gR_mk ha, h2, gR_mk k1, k6, aL_mk k2, k3, rcv_mk ha, x_end ha h0 h1, g, Option.bind_some, bn2_s, zz_0, zz_1, if_true, if_false, ite_true, ite_false, vI_i, vR_n, vR_r, vR_v, reduceCtorEq]
theorem x_gapS (h : xA T F c nW w) {a f s b g : Nat} (ha : kd T a = some 1) (h0 : F a 0 = .int (nI f)) (h1 : F a 1 = .int (nI s)) (h2 : F a 2 = .ref b) (hb : kd T b = some 1) (h3 : F b 0 = .int (nI g)) (hl : f + s ≤ g) : fX0_gapBehind fu (mkS T F nx) (c + 1) (some a) = some (nI (g - (f + s)), mkS T F nx) := by
  have g := pk_sub hl
  simp only [fX0_gapBehind, fX0_gapBehind_22, gR_mk ha, h2, gI_mk hb, h3, rcv_mk ha, x_end ha h0 h1, g, Option.bind_some, bn2_s, zz_0, zz_1, if_true, if_false, ite_true, ite_false, vI_i, vR_n, vR_r, vR_v, reduceCtorEq]
def lkF (F : Nat → Nat → Value) (a p e k : Nat) : Nat → Nat → Value := u2 (u2 (u2 (u2 F p 0 (.int (nI e))) p 1 (.int (nI k))) p 2 (F a 2)) a 2 (.ref p)
theorem x_link {a p e k a0 : Nat} {r : Option Nat} (ha : kd T a = some 1) (hp : kd T p = some 1) (hne : p ≠ a) (hr : F a 2 = va_rf r) : fX0_link fu (mkS T F nx) a0 (some a) (some p) (nI e) (nI k) = some ((), mkS T (lkF F a p e k) nx) := by
  have hr2 : (u2 (u2 F p 0 (.int (nI e))) p 1 (.int (nI k))) a 2 = va_rf r := by simp [u2, hr]
  simp only [fX0_link, pV_mk hp, gR_mk ha, hr2, pV_mk ha, Option.bind_some, bn2_s, zz_0, zz_1, if_true, if_false, ite_true, ite_false, vI_i, vR_n, vR_r, vR_v, reduceCtorEq]
  simp only [lkF, hr, va_rf]
theorem lkF_o {a p e k q f : Nat} (h1 : q ≠ p) (h2 : ¬ (q = a ∧ f = 2)) : lkF F a p e k q f = F q f := by
  simp only [lkF, u2, h1, h2, false_and, if_false]
theorem lkF_a {a p e k : Nat} : lkF F a p e k a 2 = .ref p := by simp [lkF, u2]
theorem lkF_0 {a p e k : Nat} : lkF F a p e k p 0 = .int (nI e) := by simp [lkF, u2]
theorem lkF_1 {a p e k : Nat} : lkF F a p e k p 1 = .int (nI k) := by simp [lkF, u2]
theorem lkF_2 {a p e k : Nat} (h : p ≠ a) : lkF F a p e k p 2 = F a 2 := by simp [lkF, u2, h]
/-- what a change of the chain leaves: all but p and the links -/
def bfr (F F' : Nat → Nat → Value) (p : Nat) (L : List Nat) : Prop := (∀ q, q ≠ p → q ∉ L → F' q = F q) ∧ (∀ q, q ≠ p → ∀ f, f ≠ 2 → F' q f = F q f)
theorem bch_rf {a : Nat} : ∀ {l : bL}, bch T F a l → ∃ r, F a 2 = va_rf r
  | [], h => ⟨none, h⟩
  | (b, _, _) :: _, h => ⟨some b, h.1⟩
theorem lk_bch {a p e k : Nat} {l : bL} (hb : bch T F a l) (hp : kd T p = some 1) (hpa : p ≠ a) (hpl : p ∉ l.map (fun x => x.1)) (hal : a ∉ l.map (fun x => x.1)) : bch T (lkF F a p e k) a ((p, e, k) :: l) := by
  refine ⟨lkF_a, hp, lkF_0, lkF_1, ?_⟩
  have hz := lkF_2 (F := F) (e := e) (k := k) hpa
  match l, hb with
  | [], hb => unfold bch at hb ⊢; rw [hz]; exact hb
  | (b, f, s) :: r, hb =>
    obtain ⟨g1, g2, g3, g4, g5⟩ := hb
    have hbp : b ≠ p := fun z => hpl (by simp [z])
    have hba : b ≠ a := fun z => hal (by simp [z])
    refine ⟨by rw [hz]; exact g1, g2, by rw [lkF_o hbp (by omega)]; exact g3, by rw [lkF_o hbp (by omega)]; exact g4, bch_congr g5 (lkF_o hbp (by omega)) (fun q hq f hf => lkF_o (fun z => hpl (by simp [← z]; exact Or.inr (by simpa using hq))) (fun z => hal (by simp [← z.1]; exact Or.inr (by simpa using hq))))⟩
theorem lk_bfr {a p e k : Nat} {L : List Nat} (ha : a ∈ L) : bfr F (lkF F a p e k) p L := by
  refine ⟨fun q h1 h2 => ?_, fun q h1 f hf => lkF_o h1 (by omega)⟩
  funext f
  exact lkF_o h1 (fun z => h2 (by rw [z.1]; exact ha))
theorem bfr.more {F F' : Nat → Nat → Value} {p : Nat} {L L' : List Nat} (h : bfr F F' p L) (hL : ∀ q ∈ L, q ∈ L') : bfr F F' p L' := ⟨fun q h1 h2 => h.1 q h1 (fun z => h2 (hL q z)), h.2⟩
set_option maxRecDepth 4000 in
theorem x_take_loop (h : xA T F c nW w) {p k : Nat} (hp : kd T p = some 1) (hk : 0 < k) (hk2 : k ≤ 3000) : ∀ (m : Nat) (l : bL) (a fa sa e : Nat), bch T F a l → kd T a = some 1 → F a 0 = .int (nI fa) → F a 1 = .int (nI sa) → fa + sa = e → srt nW e l → p ≠ a → p ∉ l.map (fun x => x.1) → (a :: l.map (fun x => x.1)).Nodup → l.length + 1 < m →
    (ff nW k e l = none → fX0_take_11 fu m (mkS T F nx) (c + 1) (some p) (nI k) (some a) = some (0, mkS T F nx)) ∧
    (∀ e', ff nW k e l = some e' → ∃ F', fX0_take_11 fu m (mkS T F nx) (c + 1) (some p) (nI k) (some a) = some (1, mkS T F' nx) ∧ bch T F' a (insF nW k p e l) ∧ F' p 0 = .int (nI e') ∧ F' p 1 = .int (nI k) ∧ bfr F F' p (a :: l.map (fun x => x.1))) := by
  intro m
  induction m with
  | zero => intro l a fa sa e _ _ _ _ _ _ _ _ _ hm; omega
  | succ m ih =>
    intro l a fa sa e hb ha h0 h1 he hs hpa hpl hnd hm
    have hW := h.2.2.2.1
    have hle := srt_le hs
    obtain ⟨r, hr⟩ := bch_rf hb
    have hal : a ∉ l.map (fun x => x.1) := (List.nodup_cons.mp hnd).1
    have hlk := x_link (fu := fu) (nx := nx) (a0 := c + 1) (e := e) (k := k) ha hp hpa hr
    rw [fX0_take_11, if_neg (by simp)]
    match l, hb, hs, hpl, hnd, hm, hal with
    | [], hb, hs, hpl, hnd, hm, hal =>
      unfold bch at hb
      have hg := x_gapN (fu := fu) (nx := nx) h ha h0 h1 hb (by omega)
      simp only [rcv_mk h.1, hg, he, Option.bind_some, bn2_s, zz_0, zz_1, if_true, if_false, ite_true, ite_false, vI_i, vR_n, vR_r, vR_v, reduceCtorEq, ff]
      by_cases c1 : e + k ≤ nW
      · rw [if_neg (nI_nlt (by omega) (by omega)), if_pos c1]
        refine ⟨fun z => (by cases z), fun e' z => ?_⟩
        cases z
        refine ⟨lkF F a p e k, ?_, lk_bch hb hp hpa hpl hal, lkF_0, lkF_1, lk_bfr (by simp)⟩
        simp only [rcv_mk ha, rcv_mk h.1, x_end ha h0 h1, he, hlk, Option.bind_some, bn2_s, zz_0, zz_1, if_true, if_false, ite_true, ite_false, vI_i, vR_n, vR_r, vR_v, reduceCtorEq]
      · rw [if_pos (nI_lt (by omega) (by omega)), if_neg c1]
        refine ⟨fun _ => ?_, fun e' z => (by cases z)⟩
        have : gR (mkS T F nx) 1 2 (some a) = some none := by rw [gR_mk ha, hb]; rfl
        simp only [this, Option.bind_some, bn2_s, zz_0, zz_1, if_true, if_false, ite_true, ite_false, vI_i, vR_n, vR_r, vR_v, reduceCtorEq]
        cases m with
        | zero => simp at hm
        | succ m => rw [fX0_take_11]; simp only [Option.bind_some, bn2_s, zz_0, zz_1, if_true, if_false, ite_true, ite_false, vI_i, vR_n, vR_r, vR_v, reduceCtorEq]
    | (b, f, s) :: t, hb, hs, hpl, hnd, hm, hal =>
      obtain ⟨g1, g2, g3, g4, g5⟩ := hb
      have hs0 := srt_le hs.2.2
      have hg := x_gapS (fu := fu) (nx := nx) h ha h0 h1 g1 g2 g3 (by have := hs.1; omega)
      simp only [rcv_mk h.1, hg, he, Option.bind_some, bn2_s, zz_0, zz_1, if_true, if_false, ite_true, ite_false, vI_i, vR_n, vR_r, vR_v, reduceCtorEq, ff, insF]
      by_cases c1 : e + k ≤ f
      · rw [if_neg (nI_nlt (by omega) (by omega)), if_pos c1, if_pos c1]
        refine ⟨fun z => (by cases z), fun e' z => ?_⟩
        cases z
        refine ⟨lkF F a p e k, ?_, lk_bch ⟨g1, g2, g3, g4, g5⟩ hp hpa hpl hal, lkF_0, lkF_1, lk_bfr (by simp)⟩
        simp only [rcv_mk ha, rcv_mk h.1, x_end ha h0 h1, he, hlk, Option.bind_some, bn2_s, zz_0, zz_1, if_true, if_false, ite_true, ite_false, vI_i, vR_n, vR_r, vR_v, reduceCtorEq]
      · have := hs.1
        rw [if_pos (nI_lt (by omega) (by omega)), if_neg c1, if_neg c1]
        have hn : gR (mkS T F nx) 1 2 (some a) = some (some b) := by rw [gR_mk ha, g1]; rfl
        simp only [hn, Option.bind_some, bn2_s, zz_0, zz_1, if_true, if_false, ite_true, ite_false, vI_i, vR_n, vR_r, vR_v, reduceCtorEq]
        have hnd2 := (List.nodup_cons.mp hnd).2
        have hpb : p ≠ b := fun z => hpl (by simp [z])
        have hpt : p ∉ t.map (fun x => x.1) := fun z => hpl (by simp at z ⊢; exact Or.inr z)
        obtain ⟨i1, i2⟩ := ih t b f s (f + s) g5 g2 g3 g4 rfl hs.2.2 hpb hpt hnd2 (by simp at hm; omega)
        refine ⟨i1, fun e' z => ?_⟩
        obtain ⟨F', j1, j2, j3, j4, j5⟩ := i2 e' z
        have haF : F' a = F a := j5.1 a (Ne.symm hpa) (fun z => hal (by simpa using z))
        have hbF : ∀ f, f ≠ 2 → F' b f = F b f := j5.2 b (Ne.symm hpb)
        exact ⟨F', j1, ⟨by rw [haF]; exact g1, g2, by rw [hbF 0 (by omega)]; exact g3, by rw [hbF 1 (by omega)]; exact g4, j2⟩, j3, j4, j5.more (fun q hq => by simp at hq ⊢; exact Or.inr hq)⟩
end XC
