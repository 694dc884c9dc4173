/-! the two sides of a sorting job -/
/-- words outside the job's two blocks stay -/
def wfr (w w' : Nat → Int32) (f n bf m : Nat) : Prop := ∀ q, (q < f ∨ f + n ≤ q) → (q < bf ∨ bf + m ≤ q) → w' q = w q
theorem wfr.rf (w : Nat → Int32) (f n bf m : Nat) : wfr w w f n bf m := fun _ _ _ => rfl
theorem wfr.tr {w w1 w2 : Nat → Int32} {f n bf m : Nat} (h1 : wfr w w1 f n bf m) (h2 : wfr w1 w2 f n bf m) : wfr w w2 f n bf m := fun q a b => by rw [h2 q a b, h1 q a b]
theorem wfr.sw {w w1 : Nat → Int32} {f n bf m a b : Nat} (h : wfr w w1 f n bf m) (ha : a < n) (hb : b < n) : wfr w (sw w1 (f + a) (f + b)) f n bf m := fun q h1 h2 => by rw [sw_o (by omega) (by omega)]; exact h q h1 h2
theorem gSt_fr {w : Nat → Int32} {f n g i k : Nat} (bf m : Nat) (hk : k < n) : wfr w (gSt w f n g i k).1 f n bf m := by
  unfold gSt
  split
  · exact wfr.rf _ _ _ _ _
  · split <;> exact (wfr.rf _ _ _ _ _).sw (by omega) hk
theorem hNx_fr {w w1 : Nat → Int32} {f n root e : Nat} (bf m : Nat) (h : wfr w w1 f n bf m) (he : e ≤ n) (h2 : 2 ≤ e) : wfr w (hNx w1 f root e).1 f n bf m := by
  unfold hNx
  split
  · exact h
  · have := h.sw (a := 0) (b := e - 1) (by omega) (by omega)
    rw [Nat.add_zero] at this
    exact this
theorem hStp_fr {w : Nat → Int32} {f n root e node child b : Nat} (bf m : Nat) (hv : hIv n root e node child b) : wfr w (hStp w f root e node child b).1 f n bf m := by
  obtain ⟨h1, h2, h3, h4, h5, h6, h7, h8, h9⟩ := hv
  unfold hStp
  split
  · exact wfr.rf _ _ _ _ _
  · split
    · exact hNx_fr bf m (wfr.rf _ _ _ _ _) h2 h1
    · split
      · exact (wfr.rf _ _ _ _ _).sw (by omega) (by omega)
      · exact hNx_fr bf m ((wfr.rf _ _ _ _ _).sw (by omega) (by omega)) h2 h1
theorem wfr.cpy {w w1 : Nat → Int32} {f n bf q a t k : Nat} (h : wfr w w1 f n bf n) (ht : t + k ≤ n) (s : Nat) : wfr w (va_cpy w1 w1 s (qA q f bf + t) k) f n bf n := fun x h1 h2 => by
  have : ¬ (qA q f bf + t ≤ x ∧ x < qA q f bf + t + k) := by unfold qA; split <;> omega
  simp only [va_cpy]
  rw [if_neg this]
  exact h x h1 h2
theorem mEnd_fr {w w1 : Nat → Int32} {f bf n q wd : Nat} (h : wfr w w1 f n bf n) : wfr w (mEnd f bf n w1 q wd).1 f n bf n := by
  unfold mEnd
  split
  · exact h
  · show wfr w (if q = 0 then va_cpy w1 w1 bf f n else w1) f n bf n
    split
    · have := h.cpy (a := 0) (q := 0) (t := 0) (k := n) (by omega) bf
      simpa [qA] using this
    · exact h
theorem mRs_fr {w w1 : Nat → Int32} {f bf n q y u z v p : Nat} (h : wfr w w1 f n bf n) (h1 : y < u → p + (u - y) ≤ n) (h2 : ¬ y < u → p + (v - z) ≤ n) : wfr w (mRs f bf w1 q y u z v p) f n bf n := by
  unfold mRs
  split
  · rename_i c; exact h.cpy (a := 0) (h1 c) _
  · rename_i c; exact h.cpy (a := 0) (h2 c) _
theorem mCt_fr {w w1 : Nat → Int32} {f bf n q wd l y u z v p : Nat} (h : wfr w w1 f n bf n) (hv : mIw n q wd l y u z v p) : wfr w (mCt f bf n w1 q wd l y u z v p).1 f n bf n := by
  obtain ⟨h1, h2, h3, h4, h5, h6, h7, h8, h9, h10, h11⟩ := hv
  have hr := mRs_fr (q := q) (y := y) (u := u) (z := z) (v := v) (p := p) h (fun _ => by omega) (fun _ => by omega)
  unfold mCt
  split
  · exact h
  · split
    · split
      · exact hr
      · exact mEnd_fr (hr.cpy (a := 0) (by omega) _)
    · exact mEnd_fr hr
theorem wfr.up {w w1 : Nat → Int32} {f n bf q p : Nat} {x : Int32} (h : wfr w w1 f n bf n) (hp : p < n) : wfr w (upd w1 (qA q f bf + p) x) f n bf n := fun y h1 h2 => by
  have : y ≠ qA q f bf + p := by unfold qA; split <;> omega
  simp only [upd, this, if_false]
  exact h y h1 h2
theorem mStp_fr {w : Nat → Int32} {f bf n q wd l y u z v p : Nat} (hv : mIv n q wd l y u z v p) : wfr w (mStp f bf n w q wd l y u z v p).1 f n bf n := by
  obtain ⟨⟨h1, h2, h3, h4, h5, h6, h7, h8, h9, h10, h11⟩, hy, hz⟩ := hv
  unfold mStp
  split
  · exact mCt_fr ((wfr.rf _ _ _ _ _).up (by omega)) ⟨h1, h2, h3, h4, h5, h6, h7, h8, by omega, by omega, by omega⟩
  · exact mCt_fr ((wfr.rf _ _ _ _ _).up (by omega)) ⟨h1, h2, h3, h4, h5, h6, by omega, by omega, h9, h10, by omega⟩
theorem qRng_fr {w w1 : Nat → Int32} {f n bf t a b : Nat} (h : wfr w w1 f n bf 24) (ha : a < b) (hb : b < n) : wfr w (qRng f w1 t a b).1 f n bf 24 := h.sw (by omega) hb
theorem qPop_fr {w w1 : Nat → Int32} {f n bf t : Nat} (h : wfr w w1 f n bf 24) (hs : qStk bf n w1 t) (hn : n ≤ 1000) : wfr w (qPop f bf w1 t).1 f n bf 24 := by
  unfold qPop
  split
  · exact h
  · rename_i c
    obtain ⟨a, b, g1, g2, g3, g4, g5⟩ := hs (t - 1) (by omega)
    rw [g1, g2, nI_c (by omega), nI_c (by omega)]
    exact qRng_fr h g3 g4
theorem qPsh_fr {w w1 : Nat → Int32} {f n bf t a b : Nat} (h : wfr w w1 f n bf 24) (ht : t ≤ 8) : wfr w (qPsh bf w1 t a b) f n bf 24 := fun q h1 h2 => by
  simp only [qPsh, upd]
  rw [if_neg (by omega), if_neg (by omega)]
  exact h q h1 h2
theorem qEnd_fr {w w1 : Nat → Int32} {f bf n t l h s : Nat} (hw : wfr w w1 f n bf 24) (h1 : l < h) (h2 : h < n) (h3 : l ≤ s) (h4 : s ≤ h) (hn : n ≤ 1000) (hc : (h - l + 1) * 2 ^ t ≤ n) (hs : qStk bf n w1 t) : wfr w (qEnd f bf w1 t l h s).1 f n bf 24 := by
  have ht := q_deep (show 2 ≤ h - l + 1 by omega) hc hn
  have hm : ∀ x, x ≤ h - l + 1 → x * 2 ^ t ≤ n := fun x hx => Nat.le_trans (Nat.mul_le_mul_right _ hx) hc
  unfold qEnd
  split
  · split
    · rename_i c2
      split
      · exact qRng_fr (qPsh_fr hw ht) (by omega) (by omega)
      · exact qPop_fr (qPsh_fr hw ht) (qStk_psh hs c2 h2 (hm _ (by omega))) hn
    · exact qPop_fr hw hs hn
  · split
    · split
      · exact qRng_fr (qPsh_fr hw ht) (by omega) (by omega)
      · exact qPop_fr (qPsh_fr hw ht) (qStk_psh hs (by omega) (by omega) (hm _ (by omega))) hn
    · exact qPop_fr hw hs hn
theorem qStp_fr {w : Nat → Int32} {f bf n t l h s k : Nat} (hv : qIv bf n w t l h s k) (hd : f + n ≤ bf ∨ bf + 24 ≤ f) : wfr w (qStp f bf w t l h s k).1 f n bf 24 := by
  obtain ⟨h1, h2, h3, h4, h5, h6, h7, h8⟩ := hv
  have ht := q_deep (show 2 ≤ h - l + 1 by omega) h7 h6
  have key : ∀ (w1 : Nat → Int32) (s : Nat), wfr w w1 f n bf 24 → qStk bf n w1 t → l ≤ s → s ≤ k + 1 → wfr w (qSt1 f bf w1 t l h s k).1 f n bf 24 := by
    intro w1 s hw hs g1 g2
    unfold qSt1
    split
    · exact hw
    · exact qEnd_fr (hw.sw (by omega) h2) h1 h2 g1 (by omega) h6 h7 (qStk_sw hs hd (by omega) (by omega) h2)
  unfold qStp
  split
  · exact key w s (wfr.rf _ _ _ _ _) h8 h3 (by omega)
  · exact key _ (s + 1) ((wfr.rf _ _ _ _ _).sw (by omega) (by omega)) (qStk_sw h8 hd (by omega) (by omega) (by omega)) (by omega) (by omega)
/-- the state of a job that has comparisons left: the class's fields gi, the reference's variables fi -/
def SR (wy K : Nat) (gi fi : Nat → Int32) (w : Nat → Int32) (n bf : Nat) : Prop :=
  ((wy = 0 ∨ wy = 3) ∧ K = 2 ∧ ∃ g i k, gEq gi n g i k 0 ∧ fi 22 = nI g ∧ fi 23 = nI i ∧ fi 24 = nI k ∧ 1 ≤ g ∧ g ≤ k ∧ k ≤ i ∧ i < n ∧ (wy = 0 → g = 1)) ∨
  (wy = 1 ∧ K = 3 ∧ ∃ root e node child b, hEq gi n root e node child b 0 ∧ mhE fi root e node child b ∧ hIv n root e node child b) ∨
  (wy = 2 ∧ K = 5 ∧ ∃ q wd l y u z v p, eEq gi n 0 q wd y u z v p ∧ mfE fi q wd l y u z v p ∧ mIv n q wd l y u z v p) ∨
  (wy = 4 ∧ K = 6 ∧ ∃ t l h s k, qEq gi n 0 t l h s k ∧ mqE fi t l h s k ∧ qIv bf n w t l h s k)
theorem SR.fi {wy K : Nat} {gi fi fi' : Nat → Int32} {w : Nat → Int32} {n bf : Nat} (h : SR wy K gi fi w n bf) (he : ∀ k, 22 ≤ k → k ≤ 31 → fi' k = fi k) : SR wy K gi fi' w n bf := by
  rcases h with ⟨h1, h2, g, i, k, h3, h4, h5, h6, h7⟩ | ⟨h1, h2, a, b, c, d, e, h3, ⟨h4, h5, h6, h7, h8, h9⟩, h10⟩ | ⟨h1, h2, a, b, c, d, e, f, g, i, h3, ⟨h4, h5, h6, h7, h8, h9, h10, h11⟩, h12⟩ | ⟨h1, h2, a, b, c, d, e, h3, ⟨h4, h5, h6, h7, h8⟩, h9⟩
  · exact Or.inl ⟨h1, h2, g, i, k, h3, by rw [he _ (by omega) (by omega)]; exact h4, by rw [he _ (by omega) (by omega)]; exact h5, by rw [he _ (by omega) (by omega)]; exact h6, h7⟩
  · exact Or.inr (Or.inl ⟨h1, h2, a, b, c, d, e, h3, ⟨by rw [he _ (by omega) (by omega)]; exact h4, by rw [he _ (by omega) (by omega)]; exact h5, by rw [he _ (by omega) (by omega)]; exact h6, by rw [he _ (by omega) (by omega)]; exact h7, by rw [he _ (by omega) (by omega)]; exact h8, by rw [he _ (by omega) (by omega)]; exact h9⟩, h10⟩)
  · exact Or.inr (Or.inr (Or.inl ⟨h1, h2, a, b, c, d, e, f, g, i, h3, ⟨by rw [he _ (by omega) (by omega)]; exact h4, by rw [he _ (by omega) (by omega)]; exact h5, by rw [he _ (by omega) (by omega)]; exact h6, by rw [he _ (by omega) (by omega)]; exact h7, by rw [he _ (by omega) (by omega)]; exact h8, by rw [he _ (by omega) (by omega)]; exact h9, by rw [he _ (by omega) (by omega)]; exact h10, by rw [he _ (by omega) (by omega)]; exact h11⟩, h12⟩))
  · exact Or.inr (Or.inr (Or.inr ⟨h1, h2, a, b, c, d, e, h3, ⟨by rw [he _ (by omega) (by omega)]; exact h4, by rw [he _ (by omega) (by omega)]; exact h5, by rw [he _ (by omega) (by omega)]; exact h6, by rw [he _ (by omega) (by omega)]; exact h7, by rw [he _ (by omega) (by omega)]; exact h8⟩, h9⟩))
/-- only the words of QUICK's buffer count, seen from its begin -/
theorem SR.w {wy K : Nat} {gi fi : Nat → Int32} {w w' : Nat → Int32} {n bf bf' : Nat} (h : SR wy K gi fi w n bf) (he : wy = 4 → ∀ i, i < 24 → w' (bf' + i) = w (bf + i)) : SR wy K gi fi w' n bf' := by
  rcases h with h | h | h | ⟨h1, h2, t, l, hh, s, k, h3, h4, g1, g2, g3, g4, g5, g6, g7, g8⟩
  · exact Or.inl h
  · exact Or.inr (Or.inl h)
  · exact Or.inr (Or.inr (Or.inl h))
  · have ht := q_deep (show 2 ≤ hh - l + 1 by omega) g7 g6
    refine Or.inr (Or.inr (Or.inr ⟨h1, h2, t, l, hh, s, k, h3, h4, g1, g2, g3, g4, g5, g6, g7, fun i hi => ?_⟩))
    obtain ⟨a, b, e1, e2, e3⟩ := g8 i hi
    have q1 := he h1 (2 * i) (by omega)
    have q2 := he h1 (2 * i + 1) (by omega)
    rw [← Nat.add_assoc, ← Nat.add_assoc] at q2
    exact ⟨a, b, by rw [q1]; exact e1, by rw [q2]; exact e2, e3⟩
def bz (wy n : Nat) : Nat := if wy = 2 then n else if wy = 4 then 24 else 0
section ST
variable {T : Nat → Option (Nat × Nat)} {F G : Nat → Nat → Value} {nx nx2 c nW fu sa ca ba K f n bf z j wy : Nat} {gi fi : Nat → Int32} {ar : Nat → Nat → Int32} {w : Nat → Int32}
/-- what holds of the blocks of a job of way wy: the class's, the reference's -/
def sX (T : Nat → Option (Nat × Nat)) (F : Nat → Nat → Value) (nW wy ba bf n : Nat) : Prop := (wy = 2 → xB T F nW ba bf n) ∧ (wy = 4 → xB T F nW ba bf 24 ∧ F ba 1 = .int 24)
def sM (ar : Nat → Nat → Int32) (nW wy j f n bf : Nat) : Prop := ar 6 j = nI wy ∧ wy ≤ 4 ∧ (wy = 2 ∨ wy = 4 → ar 10 j = nI bf ∧ bf + bz wy n ≤ nW ∧ (f + n ≤ bf ∨ bf + bz wy n ≤ f))
theorem s_step (hx : xS T F c nW sa ca ba K f n) (hxb : sX T F nW wy ba bf n) (hm : mS T z nW fi ar j f n) (hmb : sM ar nW wy j f n bf) (hfu : 1001 < fu) (hR : SR wy K gi fi w n bf) :
    ∃ o gi' fi' w', dS_compareNext fu (xs T F nx c sa ca ba K gi w) (some sa) = some ((), xs T F nx c sa ca ba K gi' w') ∧ fX10_goesOn fu (mw T G nx2 z fi (aw ar w)) z = some (nI (1 - o), mw T G nx2 z fi' (aw ar w')) ∧ o ≤ 1 ∧ gi' 2 = nI n ∧ gi' 3 = nI o ∧ fEq fi fi' ∧ (o = 0 → SR wy K gi' fi' w' n bf) ∧ wfr w w' f n bf (bz wy n) := by
  have hk4 := hk4_x (nx := nx) (gi := gi) (w := w) hx
  obtain ⟨hmb1, hwy, hmb2⟩ := hmb
  rcases hR with ⟨h1, rfl, g, i, k, h3, h4, h5, h6, h7, h8, h9, h10, h11⟩ | ⟨rfl, rfl, root, e, node, child, b, h3, h4, h5⟩ | ⟨rfl, rfl, q, wd, l, y, u, zz1, v, p, h3, h4, h5⟩ | ⟨rfl, rfl, t, l, hh, s, k, h3, h4, h5⟩
  · have hw : ar 6 j = 0 ∨ ar 6 j = 3 := by
      rcases h1 with rfl | rfl
      · exact Or.inl hmb1
      · exact Or.inr hmb1
    have hg : ar 6 j = 0 → g = 1 := fun hz => h11 (by rw [hmb1] at hz; exact (nI_eq (b := 0) (by omega) (by omega)).mp hz)
    obtain ⟨gi', x1, x2⟩ := x_gapStep (fu := fu) (nx := nx) (w := w) hx h3 h7 h8 h9 h10
    obtain ⟨fi', m1, m2, m3, m4, m5⟩ := m_gapStep (fu := fu) (G := G) (nx := nx2) (w := w) hm hw hg h4 h5 h6 h7 h8 h9 h10 (by omega)
    have ho : (gSt w f n g i k).2.2.2.2 ≤ 1 := by
      unfold gSt
      split
      · exact gNx_o n g i
      · split
        · exact Nat.zero_le _
        · exact gNx_o n g i
    refine ⟨_, gi', fi', _, ?_, m1, ho, x2.1, x2.2.1, m2, fun h0 => ?_, gSt_fr bf _ (by omega)⟩
    · simp only [dS_compareNext, hk4, if_true, Option.bind_some, x1]
    · have hn := hm.2.2.2.2.2.2
      refine Or.inl ⟨h1, rfl, _, _, _, ?_, m3, m4, m5, ?_⟩
      · rw [h0] at x2; exact x2
      · revert h0
        unfold gSt gNx
        split
        · split
          · intro _; exact ⟨h7, by show g ≤ i + 1; omega, Nat.le_refl _, by assumption, h11⟩
          · intro h0
            have : 0 < (g - 1) / 3 := by
              simp only at h0
              split at h0 <;> omega
            exact ⟨by show 1 ≤ (g - 1) / 3; omega, Nat.le_refl _, Nat.le_refl _, by show (g - 1) / 3 < n; omega, fun hz => by have := h11 hz; show (g - 1) / 3 = 1; omega⟩
        · split
          · rename_i c2; intro _; exact ⟨h7, c2, by show k - g ≤ i; omega, h10, h11⟩
          · split
            · intro _; exact ⟨h7, by show g ≤ i + 1; omega, Nat.le_refl _, by assumption, h11⟩
            · intro h0
              have : 0 < (g - 1) / 3 := by
                simp only at h0
                split at h0 <;> omega
              exact ⟨by show 1 ≤ (g - 1) / 3; omega, Nat.le_refl _, Nat.le_refl _, by show (g - 1) / 3 < n; omega, fun hz => by have := h11 hz; show (g - 1) / 3 = 1; omega⟩
  · obtain ⟨gi', x1, x2⟩ := x_heapStep (fu := fu) (nx := nx) (w := w) hx h3 h5
    obtain ⟨fi', m1, m2, m3⟩ := m_heapStep (fu := fu) (G := G) (nx := nx2) (w := w) hm hmb1 h4 h5 (by omega)
    have oN : ∀ w', (hNx w' f root e).2.2.2.2.2.2 ≤ 1 := fun w' => by
      unfold hNx
      split
      · exact Nat.zero_le _
      · show (if 1 < e - 1 then 0 else 1) ≤ 1
        split <;> omega
    have ho : (hStp w f root e node child b).2.2.2.2.2.2 ≤ 1 := by
      unfold hStp
      repeat' split
      all_goals first | exact Nat.zero_le _ | exact oN _
    refine ⟨_, gi', fi', _, ?_, m1, ho, x2.1, x2.2.1, m2, fun h0 => ?_, hStp_fr bf _ h5⟩
    · simp +decide only [dS_compareNext, hk4, if_true, if_false, Option.bind_some, x1]
    · rw [h0] at x2
      exact Or.inr (Or.inl ⟨rfl, rfl, _, _, _, _, _, x2, m3 h0, hStp_iv h5 h0⟩)
  · have hB := hxb.1 rfl
    have hb2 := hmb2 (Or.inl rfl)
    have hz : bz 2 n = n := by simp [bz]
    rw [hz] at hb2
    obtain ⟨gi', x1, x2, x3, x4⟩ := x_mergeStep (fu := fu) (nx := nx) (w := w) hx hB h3 h5
    obtain ⟨fi', m1, m2, m3⟩ := m_mergeStep (fu := fu) (G := G) (nx := nx2) (w := w) ⟨hm, hb2⟩ hmb1 h4 h5 hfu
    have oE : ∀ w' : Nat → Int32, (mEnd f bf n w' q wd).2.2.2.2.2.2.2.2.2 ≤ 1 := fun w' => by
      unfold mEnd; split
      · exact Nat.zero_le _
      · exact Nat.le_refl 1
    have ho : (mStp f bf n w q wd l y u zz1 v p).2.2.2.2.2.2.2.2.2 ≤ 1 := by
      unfold mStp mCt
      repeat' split
      all_goals first | exact Nat.zero_le _ | exact oE _
    refine ⟨_, gi', fi', _, ?_, m1, ho, x2, x3, m2, fun h0 => ?_, by rw [hz]; exact mStp_fr h5⟩
    · simp +decide only [dS_compareNext, hk4, if_true, if_false, Option.bind_some, x1]
    · exact Or.inr (Or.inr (Or.inl ⟨rfl, rfl, _, _, _, _, _, _, _, _, x4 h0, m3 h0, mStp_iv h5 h0⟩))
  · obtain ⟨hB, hb1⟩ := hxb.2 rfl
    have hb2 := hmb2 (Or.inr rfl)
    have hz : bz 4 n = 24 := by simp [bz]
    rw [hz] at hb2
    obtain ⟨gi', x1, x2, x3, x4⟩ := x_quickStep (fu := fu) (nx := nx) (w := w) hx hB hb1 hb2.2.2 h3 h5
    obtain ⟨fi', m1, m2, m3⟩ := m_quickStep (fu := fu) (G := G) (nx := nx2) (w := w) ⟨hm, hb2⟩ hmb1 h4 h5
    have oP : ∀ (w' : Nat → Int32) (t : Nat), (qPop f bf w' t).2.2.2.2.2.2 ≤ 1 := fun w' t => by
      unfold qPop; split
      · exact Nat.le_refl 1
      · exact Nat.zero_le _
    have ho : (qStp f bf w t l hh s k).2.2.2.2.2.2 ≤ 1 := by
      unfold qStp qSt1 qEnd
      repeat' split
      all_goals first | exact Nat.zero_le _ | exact oP _ _
    refine ⟨_, gi', fi', _, ?_, m1, ho, x2, x3, m2, fun h0 => ?_, by rw [hz]; exact qStp_fr h5 hb2.2.2⟩
    · simp +decide only [dS_compareNext, hk4, if_true, if_false, Option.bind_some, x1]
    · exact Or.inr (Or.inr (Or.inr ⟨rfl, rfl, _, _, _, _, _, x4 h0, m3 h0, qStp_iv h5 hb2.2.2 h0⟩))
end ST
