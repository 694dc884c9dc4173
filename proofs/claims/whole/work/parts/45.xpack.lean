/-! packing, and the counts of the arena -/
def pkL : Nat → bL → bL
  | _, [] => []
  | e, (b, _, s) :: r => (b, e, s) :: pkL (e + s) r
def pkW : Nat → bL → (Nat → Int32) → (Nat → Int32)
  | _, [], w => w
  | e, (_, f, s) :: r, w => pkW (e + s) r (if f = e then w else va_cpy w w f e s)
def pkN : Nat → bL → Nat
  | _, [] => 0
  | e, (_, f, s) :: r => (if f = e then 0 else s) + pkN (e + s) r
theorem srt_mono {nW : Nat} : ∀ {l : bL} {e e' : Nat}, srt nW e l → e' ≤ e → srt nW e' l
  | [], _, _, h, h1 => by unfold srt at h ⊢; omega
  | (_, _, _) :: _, _, _, h, h1 => ⟨by have := h.1; omega, h.2⟩
def fsum (nW : Nat) : Nat → bL → Nat
  | e, [] => nW - e
  | e, (_, f, s) :: r => (f - e) + fsum nW (f + s) r
def fmax (nW : Nat) : Nat → bL → Nat → Nat
  | e, [], m => max m (nW - e)
  | e, (_, f, s) :: r, m => fmax nW (f + s) r (max m (f - e))
def fcnt (nW : Nat) : Nat → bL → Nat
  | e, [] => if e < nW then 1 else 0
  | e, (_, f, s) :: r => (if e < f then 1 else 0) + fcnt nW (f + s) r
theorem imx_nI {a b : Nat} (ha : a < 2 ^ 31) (hb : b < 2 ^ 31) : imx (nI a) (nI b) = nI (max a b) := by
  unfold imx
  by_cases h : a < b
  · rw [if_pos (nI_lt h hb), Nat.max_eq_right (by omega)]
  · rw [if_neg (nI_nlt (by omega) ha), Nat.max_eq_left (by omega)]
theorem imn_nI {a b : Nat} (ha : a < 2 ^ 31) (hb : b < 2 ^ 31) : imn (nI a) (nI b) = nI (min a b) := by
  unfold imn
  by_cases h : b < a
  · rw [if_pos (nI_lt h ha), Nat.min_eq_right (by omega)]
  · rw [if_neg (nI_nlt (by omega) hb), Nat.min_eq_left (by omega)]
theorem nI_e {a b : Nat} (ha : a < 2 ^ 31) (hb : b < 2 ^ 31) : (nI a = nI b) = (a = b) := propext (nI_eq ha hb)
section XP
variable {T : Nat → Option (Nat × Nat)} {nx c nW fu : Nat}
theorem x_pack_loop : ∀ (m : Nat) (l : bL) (a e mv : Nat) (w : Nat → Int32) (F : Nat → Nat → Value) (r : Option Nat), xA T F c nW w → bch T F a l → F a 2 = va_rf r → srt nW e l → c + 2 ∉ l.map (fun x => x.1) → c + 1 ∉ l.map (fun x => x.1) → a ≠ c + 2 → a ∉ l.map (fun x => x.1) → (l.map (fun x => x.1)).Nodup → l.length < m →
    ∃ F', fX0_moveAllDown_12 fu m (mkS T F nx) (c + 1) (nI mv) (nI e) r = some (nI (mv + pkN e l), mkS T F' nx) ∧ xA T F' c nW (pkW e l w) ∧ bch T F' a (pkL e l) ∧ (∀ q, q ∉ l.map (fun x => x.1) → q ≠ c + 2 → F' q = F q) ∧ (∀ q f, q ≠ c + 2 → f ≠ 0 → F' q f = F q f) := by
  intro m
  induction m with
  | zero => intro l a e mv w F r _ _ _ _ _ _ _ _ _ hm; omega
  | succ m ih =>
    intro l a e mv w F r h hb hr hs hc2 hc1 hac hal hnd hm
    have hW := h.2.2.2.1
    match l, hb, hs, hc2, hc1, hal, hnd, hm with
    | [], hb, hs, hc2, hc1, hal, hnd, hm =>
      unfold bch at hb
      have : r = none := by rw [hb] at hr; cases r with | none => rfl | some b => cases hr
      subst this
      exact ⟨F, by rw [fX0_moveAllDown_12]; simp only [pkN, Nat.add_zero, Option.bind_some, bn2_s, zz_0, zz_1, if_true, if_false, ite_true, ite_false, vI_i, vR_n, vR_r, vR_v, reduceCtorEq], h, hb, fun _ _ _ => rfl, fun _ _ _ _ => rfl⟩
    | (b, f, s) :: t, hb, hs, hc2, hc1, hal, hnd, hm =>
      obtain ⟨g1, g2, g3, g4, g5⟩ := hb
      have : r = some b := by rw [g1] at hr; cases r with | none => cases hr | some b' => cases hr; rfl
      subst this
      obtain ⟨hs1, hs2, hs3⟩ := hs
      have hs0 := srt_le hs3
      have hbc : b ≠ c + 2 := fun z => hc2 (by simp [z])
      have hbc1 : b ≠ c + 1 := fun z => hc1 (by simp [z])
      have hba : a ≠ b := fun z => hal (by simp [z])
      have hc2t : c + 2 ∉ t.map (fun x => x.1) := fun z => hc2 (by simp at z ⊢; exact Or.inr z)
      have hc1t : c + 1 ∉ t.map (fun x => x.1) := fun z => hc1 (by simp at z ⊢; exact Or.inr z)
      have hndt := List.nodup_cons.mp hnd
      have hm2 : t.length < m := by simp at hm; omega
      have hst : srt nW (e + s) t := srt_mono hs3 (by omega)
      have hb0 : gI (mkS T F nx) 1 0 (some b) = some (nI f) := by rw [gI_mk g2, g3]; rfl
      rw [fX0_moveAllDown_12, if_neg (by simp)]
      simp only [hb0, Option.bind_some, bn2_s, zz_0, zz_1, if_true, if_false, ite_true, ite_false, vI_i, vR_n, vR_r, vR_v, reduceCtorEq]
      by_cases e1 : f = e
      · subst e1
        rw [if_pos rfl]
        obtain ⟨r2, hr2⟩ := bch_rf g5
        have hr3 : gR (mkS T F nx) 1 2 (some b) = some r2 := by rw [gR_mk g2, hr2]; exact vR_v r2
        obtain ⟨F', j1, j2, j3, j4, j5⟩ := ih t b (f + s) mv w F r2 h g5 hr2 hst hc2t hc1t hbc hndt.1 hndt.2 hm2
        have hbF : F' b = F b := j4 b hndt.1 hbc
        have haF : F' a = F a := j4 a (fun z => hal (by simp at z ⊢; exact Or.inr z)) hac
        refine ⟨F', ?_, ?_, ⟨by rw [haF]; exact g1, g2, by rw [hbF]; exact g3, by rw [hbF]; exact g4, j3⟩, fun q h1 h2 => j4 q (fun z => h1 (by simp at z ⊢; exact Or.inr z)) h2, j5⟩
        · simp only [fX0_moveAllDown_49, rcv_mk g2, x_end g2 g3 g4, hr3, if_pos, Option.bind_some, bn2_s, zz_0, zz_1, if_true, if_false, ite_true, ite_false, vI_i, vR_n, vR_r, vR_v, reduceCtorEq]
          rw [j1]
          simp [pkN]
        · simp only [pkW, if_pos rfl, if_true]; exact j2
      · rw [if_neg (fun z => e1 ((nI_eq (by omega) (by omega)).mp z))]
        have hcp := x_copy (fu := fu) (nx := nx) h (f := f) (t := e) (n := s) (by omega) (by omega) hs2
        have hb1 : gI (mkS T F nx) 1 1 (some b) = some (nI s) := by rw [gI_mk g2, g4]; rfl
        generalize hF2 : u2 (wF F c (va_cpy w w f e s)) b 0 (.int (nI e)) = F2
        have q0 : F2 b 0 = .int (nI e) := by rw [← hF2]; simp [u2]
        have qf : ∀ q f, q ≠ c + 2 → ¬ (q = b ∧ f = 0) → F2 q f = F q f := by
          intro q f h1 h2
          rw [← hF2]; simp only [u2, h2, if_false]; rw [wF_n h1]
        have hx2 : xA T F2 c nW (va_cpy w w f e s) := by
          obtain ⟨k1, k2, k3, k4, k5, k6, k7, k8⟩ := h
          refine ⟨k1, k2, k3, k4, k5, by rw [qf _ _ (by omega) (by omega)]; exact k6, by rw [qf _ _ (by omega) (by omega)]; exact k7, ?_⟩
          rw [← hF2]; funext i; simp only [u2, Ne.symm hbc, false_and, if_false]; rw [wF_s]
        have q1 : F2 b 1 = .int (nI s) := by rw [qf b 1 hbc (by omega)]; exact g4
        have hb5 : bch T F2 b t := bch_congr g5 (qf b 2 hbc (by omega)) (fun q hq f _ => qf q f (fun z => hc2t (by rw [← z]; exact hq)) (fun z => hndt.1 (by rw [← z.1]; exact hq)))
        obtain ⟨r2, hr2⟩ := bch_rf hb5
        have hr3 : gR (mkS T F2 nx) 1 2 (some b) = some r2 := by rw [gR_mk g2, hr2]; exact vR_v r2
        have hb12 : gI (mkS T F2 nx) 1 1 (some b) = some (nI s) := by rw [gI_mk g2, q1]; rfl
        obtain ⟨F', j1, j2, j3, j4, j5⟩ := ih t b (e + s) (mv + s) _ F2 r2 hx2 hb5 hr2 hst hc2t hc1t hbc hndt.1 hndt.2 hm2
        have hbF : F' b = F2 b := j4 b hndt.1 hbc
        have haF : F' a = F2 a := j4 a (fun z => hal (by simp at z ⊢; exact Or.inr z)) hac
        refine ⟨F', ?_, ?_, ⟨by rw [haF, qf a 2 hac (by omega)]; exact g1, g2, by rw [hbF]; exact q0, by rw [hbF]; exact q1, j3⟩, fun q h1 h2 => ?_, fun q f h1 h2 => by rw [j5 q f h1 h2, qf q f h1 (by omega)]⟩
        · simp only [hb1, rcv_mk h.1, hcp, pV_mk g2, hF2, hb12, fX0_moveAllDown_49, rcv_mk g2, x_end g2 q0 q1, hr3, nI_add, Option.bind_some, bn2_s, zz_0, zz_1, if_true, if_false, ite_true, ite_false, vI_i, vR_n, vR_r, vR_v, reduceCtorEq]
          rw [j1]
          simp only [pkN, if_neg e1, Nat.add_assoc]
        · simp only [pkW, if_neg e1]; exact j2
        · have hqb : q ≠ b := fun z => h1 (by simp [z])
          rw [j4 q (fun z => h1 (by simp at z ⊢; exact Or.inr z)) h2]
          funext f
          exact qf q f h2 (by omega)
theorem x_pack {F : Nat → Nat → Value} {w : Nat → Int32} {l : bL} (h : xA T F c nW w) (hb : bch T F (c + 3) l) (hs : srt nW 0 l) (hnd : (l.map (fun x => x.1)).Nodup) (hc : ∀ q ∈ l.map (fun x => x.1), c + 6 ≤ q) (hfu : l.length < fu) :
    ∃ F', fX0_moveAllDown fu (mkS T F nx) (c + 1) = some (nI (pkN 0 l), mkS T F' nx) ∧ xA T F' c nW (pkW 0 l w) ∧ bch T F' (c + 3) (pkL 0 l) ∧ (∀ q, q ∉ l.map (fun x => x.1) → q ≠ c + 2 → F' q = F q) ∧ (∀ q f, q ≠ c + 2 → f ≠ 0 → F' q f = F q f) := by
  obtain ⟨r, hr⟩ := bch_rf hb
  obtain ⟨F', j1, j2⟩ := x_pack_loop (fu := fu) (nx := nx) fu l (c + 3) 0 0 w F r h hb hr hs (fun z => by have := hc _ z; omega) (fun z => by have := hc _ z; omega) (by omega) (fun z => by have := hc _ z; omega) hnd hfu
  refine ⟨F', ?_, j2⟩
  have hr2 : gR (mkS T F nx) 1 2 (some (c + 3)) = some r := by rw [gR_mk h.2.2.2.2.1, hr]; exact vR_v r
  simp only [fX0_moveAllDown, gR_mk h.1, h.2.2.2.2.2.2.1, hr2, Option.bind_some, bn2_s, zz_0, zz_1, if_true, if_false, ite_true, ite_false, vI_i, vR_n, vR_r, vR_v, reduceCtorEq]
  rw [show (0 : Int32) = nI 0 from rfl, j1, Nat.zero_add]
variable {F : Nat → Nat → Value} {w : Nat → Int32}
theorem x_gap (h : xA T F c nW w) {a f s e : Nat} {l : bL} (hb : bch T F a l) (ha : kd T a = some 1) (h0 : F a 0 = .int (nI f)) (h1 : F a 1 = .int (nI s)) (he : f + s = e) (hs : srt nW e l) : fX0_gapBehind fu (mkS T F nx) (c + 1) (some a) = some (nI (match l with | [] => nW - e | x :: _ => x.2.1 - e), mkS T F nx) := by
  subst he
  match l, hb, hs with
  | [], hb, hs => exact x_gapN h ha h0 h1 hb hs
  | (b, g, t) :: r, hb, hs => exact x_gapS h ha h0 h1 hb.1 hb.2.1 hb.2.2.1 hs.1
theorem x_free_loop (h : xA T F c nW w) : ∀ (m : Nat) (l : bL) (a f s e k : Nat), bch T F a l → kd T a = some 1 → F a 0 = .int (nI f) → F a 1 = .int (nI s) → f + s = e → srt nW e l → l.length + 1 < m →
    fX0_countFreeWords_7 fu m (mkS T F nx) (c + 1) (nI k) (some a) = some (nI (k + fsum nW e l), mkS T F nx) := by
  intro m
  induction m with
  | zero => intro l a f s e k _ _ _ _ _ _ hm; omega
  | succ m ih =>
    intro l a f s e k hb ha h0 h1 he hs hm
    have hg := x_gap (fu := fu) (nx := nx) h hb ha h0 h1 he hs
    rw [fX0_countFreeWords_7, if_neg (by simp)]
    match l, hb, hs, hm with
    | [], hb, hs, hm =>
      have hr : gR (mkS T F nx) 1 2 (some a) = some none := by rw [gR_mk ha, hb]; rfl
      simp only [rcv_mk h.1, hg, hr, nI_add, Option.bind_some, bn2_s, zz_0, zz_1, if_true, if_false, ite_true, ite_false, vI_i, vR_n, vR_r, vR_v, reduceCtorEq]
      cases m with
      | zero => simp at hm
      | succ m => rw [fX0_countFreeWords_7]; simp only [fsum, Option.bind_some, bn2_s, zz_0, zz_1, if_true, if_false, ite_true, ite_false, vI_i, vR_n, vR_r, vR_v, reduceCtorEq]
    | (b, g, t) :: r, hb, hs, hm =>
      have hr : gR (mkS T F nx) 1 2 (some a) = some (some b) := by rw [gR_mk ha, hb.1]; rfl
      simp only [rcv_mk h.1, hg, hr, nI_add, Option.bind_some, bn2_s, zz_0, zz_1, if_true, if_false, ite_true, ite_false, vI_i, vR_n, vR_r, vR_v, reduceCtorEq]
      rw [ih r b g t (g + t) _ hb.2.2.2.2 hb.2.1 hb.2.2.1 hb.2.2.2.1 rfl hs.2.2 (by simp at hm; omega)]
      simp only [fsum, Nat.add_assoc]
theorem x_max_loop (h : xA T F c nW w) : ∀ (m : Nat) (l : bL) (a f s e k : Nat), bch T F a l → kd T a = some 1 → F a 0 = .int (nI f) → F a 1 = .int (nI s) → f + s = e → srt nW e l → k ≤ 3000 → l.length + 1 < m →
    fX0_sizeOfLargestGap_7 fu m (mkS T F nx) (c + 1) (nI k) (some a) = some (nI (fmax nW e l k), mkS T F nx) := by
  intro m
  induction m with
  | zero => intro l a f s e k _ _ _ _ _ _ _ hm; omega
  | succ m ih =>
    intro l a f s e k hb ha h0 h1 he hs hk hm
    have hW := h.2.2.2.1
    have hg := x_gap (fu := fu) (nx := nx) h hb ha h0 h1 he hs
    rw [fX0_sizeOfLargestGap_7, if_neg (by simp)]
    match l, hb, hs, hm with
    | [], hb, hs, hm =>
      have hr : gR (mkS T F nx) 1 2 (some a) = some none := by rw [gR_mk ha, hb]; rfl
      simp only [rcv_mk h.1, hg, hr, imx_nI (show k < 2 ^ 31 by omega) (show nW - e < 2 ^ 31 by omega), Option.bind_some, bn2_s, zz_0, zz_1, if_true, if_false, ite_true, ite_false, vI_i, vR_n, vR_r, vR_v, reduceCtorEq]
      cases m with
      | zero => simp at hm
      | succ m => rw [fX0_sizeOfLargestGap_7]; simp only [fmax, Option.bind_some, bn2_s, zz_0, zz_1, if_true, if_false, ite_true, ite_false, vI_i, vR_n, vR_r, vR_v, reduceCtorEq]
    | (b, g, t) :: r, hb, hs, hm =>
      have hr : gR (mkS T F nx) 1 2 (some a) = some (some b) := by rw [gR_mk ha, hb.1]; rfl
      have := srt_le hs.2.2
      simp only [rcv_mk h.1, hg, hr, imx_nI (show k < 2 ^ 31 by omega) (show g - e < 2 ^ 31 by omega), Option.bind_some, bn2_s, zz_0, zz_1, if_true, if_false, ite_true, ite_false, vI_i, vR_n, vR_r, vR_v, reduceCtorEq]
      rw [ih r b g t (g + t) _ hb.2.2.2.2 hb.2.1 hb.2.2.1 hb.2.2.2.1 rfl hs.2.2 (by omega) (by simp at hm; omega)]
      simp only [fmax]
theorem x_cnt_loop (h : xA T F c nW w) : ∀ (m : Nat) (l : bL) (a f s e k : Nat), bch T F a l → kd T a = some 1 → F a 0 = .int (nI f) → F a 1 = .int (nI s) → f + s = e → srt nW e l → l.length + 1 < m →
    fX0_countGaps_7 fu m (mkS T F nx) (c + 1) (nI k) (some a) = some (nI (k + fcnt nW e l), mkS T F nx) := by
  intro m
  induction m with
  | zero => intro l a f s e k _ _ _ _ _ _ hm; omega
  | succ m ih =>
    intro l a f s e k hb ha h0 h1 he hs hm
    have hW := h.2.2.2.1
    have hg := x_gap (fu := fu) (nx := nx) h hb ha h0 h1 he hs
    rw [fX0_countGaps_7, if_neg (by simp)]
    match l, hb, hs, hm with
    | [], hb, hs, hm =>
      have hr : gR (mkS T F nx) 1 2 (some a) = some none := by rw [gR_mk ha, hb]; rfl
      simp only [rcv_mk h.1, hg, fX0_countGaps_22, hr, nI_ad1, Option.bind_some, bn2_s, zz_0, zz_1, if_true, if_false, ite_true, ite_false, vI_i, vR_n, vR_r, vR_v, reduceCtorEq]
      cases m with
      | zero => simp at hm
      | succ m =>
        unfold srt at hs
        by_cases c1 : e < nW
        · rw [if_neg (nI_nle (by omega) (by omega)), fX0_countGaps_7]; simp only [fcnt, if_pos c1, Option.bind_some, bn2_s, zz_0, zz_1, if_true, if_false, ite_true, ite_false, vI_i, vR_n, vR_r, vR_v, reduceCtorEq]
        · rw [if_pos (by rw [show nW - e = 0 by omega]; decide), fX0_countGaps_7]; simp only [fcnt, if_neg c1, Nat.add_zero, Option.bind_some, bn2_s, zz_0, zz_1, if_true, if_false, ite_true, ite_false, vI_i, vR_n, vR_r, vR_v, reduceCtorEq]
    | (b, g, t) :: r, hb, hs, hm =>
      have hr : gR (mkS T F nx) 1 2 (some a) = some (some b) := by rw [gR_mk ha, hb.1]; rfl
      have := srt_le hs.2.2
      have hs1 := hs.1
      simp only [rcv_mk h.1, hg, fX0_countGaps_22, hr, nI_ad1, Option.bind_some, bn2_s, zz_0, zz_1, if_true, if_false, ite_true, ite_false, vI_i, vR_n, vR_r, vR_v, reduceCtorEq]
      have hi := fun k => ih r b g t (g + t) k hb.2.2.2.2 hb.2.1 hb.2.2.1 hb.2.2.2.1 rfl hs.2.2 (by simp at hm; omega)
      by_cases c1 : e < g
      · rw [if_neg (nI_nle (by omega) (by omega)), hi]; simp only [fcnt, if_pos c1, Nat.add_assoc]
      · rw [if_pos (by rw [show g - e = 0 by omega]; decide), hi]; simp only [fcnt, if_neg c1, Nat.zero_add]
theorem x_counts (h : xA T F c nW w) {l : bL} (h0 : F (c + 3) 0 = .int 0) (h1 : F (c + 3) 1 = .int 0) (hb : bch T F (c + 3) l) (hs : srt nW 0 l) (hfu : l.length + 1 < fu) :
    fX0_countFreeWords fu (mkS T F nx) (c + 1) = some (nI (fsum nW 0 l), mkS T F nx) ∧ fX0_sizeOfLargestGap fu (mkS T F nx) (c + 1) = some (nI (fmax nW 0 l 0), mkS T F nx) ∧ fX0_countGaps fu (mkS T F nx) (c + 1) = some (nI (fcnt nW 0 l), mkS T F nx) := by
  have k5 := h.2.2.2.2.1
  have e1 := x_free_loop (fu := fu) (nx := nx) h fu l (c + 3) 0 0 0 0 hb k5 h0 h1 rfl hs hfu
  have e2 := x_max_loop (fu := fu) (nx := nx) h fu l (c + 3) 0 0 0 0 hb k5 h0 h1 rfl hs (by omega) hfu
  have e3 := x_cnt_loop (fu := fu) (nx := nx) h fu l (c + 3) 0 0 0 0 hb k5 h0 h1 rfl hs hfu
  rw [Nat.zero_add] at e1 e3
  refine ⟨?_, ?_, ?_⟩
  · simp only [fX0_countFreeWords, gR_mk h.1, h.2.2.2.2.2.2.1, Option.bind_some, bn2_s, zz_0, zz_1, if_true, if_false, ite_true, ite_false, vI_i, vR_n, vR_r, vR_v, reduceCtorEq]; exact e1
  · simp only [fX0_sizeOfLargestGap, gR_mk h.1, h.2.2.2.2.2.2.1, Option.bind_some, bn2_s, zz_0, zz_1, if_true, if_false, ite_true, ite_false, vI_i, vR_n, vR_r, vR_v, reduceCtorEq]; exact e2
  · simp only [fX0_countGaps, gR_mk h.1, h.2.2.2.2.2.2.1, Option.bind_some, bn2_s, zz_0, zz_1, if_true, if_false, ite_true, ite_false, vI_i, vR_n, vR_r, vR_v, reduceCtorEq]; exact e3
end XP
