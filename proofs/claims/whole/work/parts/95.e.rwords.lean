/-- the words behind a resize: m numbers at e, of which the first n come from f -/
def rzW (w : Nat → Int32) (f e n m : Nat) : Nat → Int32 := fun q => if e ≤ q ∧ q < e + m then (if q - e < n then w (f + (q - e)) else 0) else w q
section RW
variable {T : Nat → Option (Nat × Nat)} {F G : Nat → Nat → Value} {nx c nW fu n m f e j z ja ca : Nat} {w : Nat → Int32} {v v1 bv x3 : Int32} {fi : Nat → Int32} {ar : Nat → Nat → Int32}
theorem x_rz (hA : xA T F c nW w) (kc : kd T c = some 8) (c0 : F c 0 = .ref (c + 1)) (hja : kd T ja = some 4) (j2 : F ja 2 = .ref ca) (hca : kd T ca = some 1) (p0 : F ca 0 = .int v1) (hv1 : m ≠ 0 → v1 = nI e ∧ e + m ≤ nW) (hv : n ≠ 0 → v = nI f ∧ f + n ≤ nW) (hn : n ≤ 1000) (hm : m ≤ 1000) (hfu : 3001 < fu) :
    fX9_exchangeBlocks_92 fu (mkS T F nx) c (some ja) (nI m) x3 v bv (nI n) 1 = some (1, mkS T (wF F c (rzW w f e n m)) nx) := by
  have hW := hA.2.2.2.1
  have im : imn (nI n) (nI m) = nI (min n m) := imn_nI (by omega) (by omega)
  have sb : nI m - nI (min n m) = nI (m - min n m) := pk_sub (by omega)
  have ne : ∀ {q k : Nat}, kd T q = some k → k ≠ 10 → q ≠ c + 2 := fun h1 h2 e => by rw [e, hA.2.1] at h1; injection h1 with h1; omega
  have key : ∀ (F1 : Nat → Nat → Value) (w1 : Nat → Int32), F1 = wF F c w1 → xA T F1 c nW w1 → ∃ w2, fX0_clear fu (mkS T F1 nx) (c + 1) (v1 + nI (min n m)) (nI (m - min n m)) = some ((), mkS T (wF F c w2) nx) ∧ w2 = (fun q => if m ≠ 0 ∧ e + min n m ≤ q ∧ q < e + m then 0 else w1 q) := by
    intro F1 w1 hF1 hA1
    by_cases c1 : m - min n m = 0
    · refine ⟨w1, ?_, ?_⟩
      · rw [c1, ← hF1]; exact x_clr0 _ _ _ (by omega)
      · funext q; rw [if_neg (by omega)]
    · obtain ⟨a1, a2⟩ := hv1 (by omega)
      have := x_clear (fu := fu) (nx := nx) hA1 (f := e + min n m) (n := m - min n m) (by omega) (by omega)
      rw [a1, nI_add, this, hF1, wF_wF]
      refine ⟨_, rfl, ?_⟩
      funext q
      by_cases c2 : e + min n m ≤ q ∧ q < e + m
      · rw [if_pos (by omega), if_pos (by omega)]
      · rw [if_neg (by omega), if_neg (by omega)]
  by_cases c1 : min n m = 0
  · obtain ⟨w2, k1, k2⟩ := key F w (wF_self hA.2.2.2.2.2.2.2).symm hA
    have cp := x_copy0 (fu := fu) (nx := nx) hA (x := v) (y := v1)
    rw [c1] at sb im k1
    have e2 : w2 = rzW w f e n m := by
      rw [k2]; funext q
      unfold rzW
      by_cases c2 : e ≤ q ∧ q < e + m
      · rw [if_pos (by omega), if_pos c2, if_neg (by omega)]
      · rw [if_neg (by omega), if_neg c2]
    rw [e2] at k1
    simp +decide only [fX9_exchangeBlocks_92, gR_mk kc, c0, gR_mk hja, j2, gI_mk hca, p0, rcv_mk hA.1, im, show nI 0 = (0 : Int32) from rfl, cp, Option.bind_some, bn2_s, zz_0, zz_1, if_true, if_false, ite_true, ite_false, vI_i, vR_n, vR_r, vR_v, reduceCtorEq]
    rw [show (0 : Int32) = nI 0 from rfl, sb, k1]
    rfl
  · obtain ⟨a1, a2⟩ := hv1 (by omega)
    obtain ⟨b1, b2⟩ := hv (by omega)
    have cp := x_copy (fu := fu) (nx := nx) hA (f := f) (t := e) (n := min n m) (by omega) (by omega) (by omega)
    rw [← b1, ← a1] at cp
    have hA1 := hA.ww (va_cpy w w f e (min n m))
    obtain ⟨w2, k1, k2⟩ := key (wF F c (va_cpy w w f e (min n m))) _ rfl hA1
    have e2 : w2 = rzW w f e n m := by
      rw [k2]; funext q
      unfold rzW
      by_cases c2 : e + min n m ≤ q ∧ q < e + m
      · rw [if_pos (by omega), if_pos (by omega), if_neg (by omega)]
      · rw [if_neg (by omega)]
        simp only [va_cpy]
        by_cases c3 : e ≤ q ∧ q < e + min n m
        · rw [if_pos c3, if_pos (by omega), if_pos (by omega)]
        · rw [if_neg c3, if_neg (by omega)]
    rw [e2] at k1
    have q0 : wF F c (va_cpy w w f e (min n m)) c 0 = .ref (c + 1) := by rw [wF_n (by omega)]; exact c0
    have q1 : wF F c (va_cpy w w f e (min n m)) ja 2 = .ref ca := by rw [wF_n (ne hja (by decide))]; exact j2
    have q2 : wF F c (va_cpy w w f e (min n m)) ca 0 = .int v1 := by rw [wF_n (ne hca (by decide))]; exact p0
    simp +decide only [fX9_exchangeBlocks_92, gR_mk kc, c0, gR_mk hja, j2, gI_mk hca, p0, rcv_mk hA.1, im, cp, q0, q1, q2, sb, k1, Option.bind_some, bn2_s, zz_0, zz_1, if_true, if_false, ite_true, ite_false, vI_i, vR_n, vR_r, vR_v, reduceCtorEq]
theorem m_kept (hT : mT T z nW) {x2 x4 x5 : Int32} (hx4 : n ≠ 0 → x4 = nI f ∧ f + n ≤ nW) (hn : n ≤ 1000) : ∀ (r mm i : Nat) (ar : Nat → Nat → Int32), i + r = n → r < mm →
    ∃ m2 ar', fX10_resize_63 fu mm (mw T G nx z fi ar) z (nI j) x2 (nI n) x4 x5 (nI i) = fX10_resize_63 fu (m2 + 1) (mw T G nx z fi ar') z (nI j) x2 (nI n) x4 x5 (nI n) ∧ (∀ k, k ≠ 18 → ar' k = ar k) ∧ (∀ q, q < n → i ≤ q → ar' 18 q = ar 3 (f + q)) ∧ (∀ q, q < i → ar' 18 q = ar 18 q) := by
  have hW := hT.2.1
  intro r
  induction r with
  | zero =>
    intro mm i ar h1 h2
    obtain ⟨mm, rfl⟩ : ∃ k, mm = k + 1 := ⟨mm - 1, by omega⟩
    have : i = n := by omega
    subst this
    exact ⟨mm, ar, rfl, fun _ _ => rfl, fun q a b => by omega, fun _ _ => rfl⟩
  | succ r ih =>
    intro mm i ar h1 h2
    obtain ⟨mm, rfl⟩ : ∃ k, mm = k + 1 := ⟨mm - 1, by omega⟩
    obtain ⟨a1, a2⟩ := hx4 (by omega)
    have c1 : ¬ nI n ≤ nI i := nI_ge (by omega) (by omega)
    have hi : f + i < nW := by omega
    have hi2 : i < 1000 := by omega
    obtain ⟨m2, ar', b1, b2, b3, b4⟩ := ih mm (i + 1) (ua ar 18 i (ar 3 (f + i))) (by omega) (by omega)
    refine ⟨m2, ar', ?_, fun k hk => by rw [b2 k hk]; funext q; exact ua_k _ _ _ _ hk, fun q q1 q2 => ?_, fun q hq => by rw [b4 q (by omega)]; exact ua_j _ _ _ _ (by omega)⟩
    · rw [← b1, fX10_resize_63]
      simp +decide only [c1, Option.bind_some, bn2_s, zz_0, zz_1, if_true, if_false, ite_true, ite_false, vI_i, vR_n, vR_r, vR_v, reduceCtorEq, gI_m hT, gR_m hT, rcv_m hT, pV_m hT, aI_24 hT, sV_24 hT, aI_3 hT, sV_3 hT, aI_18 hT, sV_18 hT, aI_19 hT, sV_19 hT, aI_mZ hT, sV_mZ hT, ui_s, ui_n, ua_s, ua_k, a1, nI_add, hi, hi2, nI_ad1]
    · by_cases e : q = i
      · subst e; rw [b4 q (by omega), ua_s]
      · rw [b3 q q1 (by omega), ua_k _ _ _ _ (by decide)]
theorem m_rz (hT : mT T z nW) (hj : j < 24) {w0 : Nat → Int32} (h9 : m ≠ 0 → ar 9 j = nI e ∧ e + m ≤ nW) (hk : ∀ q, q < n → ar 18 q = w0 (f + q)) (hn : n ≤ 1000) (hm : m ≤ 1000) : ∀ (r mm i : Nat) (w : Nat → Int32), i + r = m → r < mm →
    fX10_resize_151 fu mm (mw T G nx z fi (aw ar w)) z (nI j) (nI m) (nI n) (nI i) = some (0, mw T G nx z fi (aw ar (fun q => if e + i ≤ q ∧ q < e + m then (if q - e < n then w0 (f + (q - e)) else 0) else w q))) := by
  have hW := hT.2.1
  intro r
  induction r with
  | zero =>
    intro mm i w h1 h2
    obtain ⟨mm, rfl⟩ : ∃ k, mm = k + 1 := ⟨mm - 1, by omega⟩
    have c : nI m ≤ nI i := nI_le (by omega) (by omega)
    have ew : (fun q => if e + i ≤ q ∧ q < e + m then (if q - e < n then w0 (f + (q - e)) else 0) else w q) = w := by
      funext q; rw [if_neg (by omega)]
    simp only [fX10_resize_151, c, if_true, ew]
  | succ r ih =>
    intro mm i w h1 h2
    obtain ⟨mm, rfl⟩ : ∃ k, mm = k + 1 := ⟨mm - 1, by omega⟩
    obtain ⟨a1, a2⟩ := h9 (by omega)
    have c : ¬ nI m ≤ nI i := nI_ge (by omega) (by omega)
    have hi : e + i < nW := by omega
    have fin : ∀ x : Int32, x = (if i < n then w0 (f + i) else 0) → (fun q => if e + (i + 1) ≤ q ∧ q < e + m then (if q - e < n then w0 (f + (q - e)) else 0) else upd w (e + i) x q) = (fun q => if e + i ≤ q ∧ q < e + m then (if q - e < n then w0 (f + (q - e)) else 0) else w q) := by
      intro x hx
      funext q
      by_cases e1 : q = e + i
      · subst e1
        rw [if_neg (by omega), if_pos (by omega), show e + i - e = i by omega]
        simp only [upd, if_true, hx]
      · by_cases e2 : e + (i + 1) ≤ q ∧ q < e + m
        · rw [if_pos e2, if_pos (show e + i ≤ q ∧ q < e + m by omega)]
        · rw [if_neg e2, if_neg (by omega)]
          simp only [upd, e1, if_false]
    by_cases c2 : i < n
    · have c3 : ¬ nI n ≤ nI i := nI_ge c2 (by omega)
      have hi2 : i < 1000 := by omega
      have h18 := hk i c2
      have := ih mm (i + 1) (upd w (e + i) (w0 (f + i))) (by omega) (by omega)
      rw [fin (w0 (f + i)) (by rw [if_pos c2])] at this
      simp +decide only [fX10_resize_151, fX10_resize_187, c, c3, Option.bind_some, bn2_s, zz_0, zz_1, if_true, if_false, ite_true, ite_false, vI_i, vR_n, vR_r, vR_v, reduceCtorEq, gI_m hT, gR_m hT, rcv_m hT, pV_m hT, aI_24 hT, sV_24 hT, aI_3 hT, sV_3 hT, aI_18 hT, sV_18 hT, aI_19 hT, sV_19 hT, aI_mZ hT, sV_mZ hT, ui_s, ui_n, ua_s, ua_k, aw_n, a1, hj, nI_add, hi, hi2, h18, ua_aw, nI_ad1]
      exact this
    · have c3 : nI n ≤ nI i := nI_le (by omega) (by omega)
      have := ih mm (i + 1) (upd w (e + i) 0) (by omega) (by omega)
      rw [fin 0 (by rw [if_neg c2])] at this
      simp +decide only [fX10_resize_151, fX10_resize_187, c, c3, Option.bind_some, bn2_s, zz_0, zz_1, if_true, if_false, ite_true, ite_false, vI_i, vR_n, vR_r, vR_v, reduceCtorEq, gI_m hT, gR_m hT, rcv_m hT, pV_m hT, aI_24 hT, sV_24 hT, aI_3 hT, sV_3 hT, aI_18 hT, sV_18 hT, aI_19 hT, sV_19 hT, aI_mZ hT, sV_mZ hT, ui_s, ui_n, ua_s, ua_k, aw_n, a1, hj, nI_add, hi, ua_aw, nI_ad1]
      exact this
end RW
