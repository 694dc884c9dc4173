theorem ua_awc (ar : Nat → Nat → Int32) (w : Nat → Int32) {k : Nat} (j : Nat) (x : Int32) (h : k ≠ 3) : ua (aw ar w) k j x = aw (ua ar k j x) w := by
  funext k' j'
  by_cases e : k' = 3
  · subst e; simp [ua, aw, Ne.symm h]
  · simp [ua, aw, e]
theorem hk4_mk {T : Nat → Option (Nat × Nat)} {F : Nat → Nat → Value} {nx a K : Nat} (h : kd T a = some K) (hK : K = 2 ∨ K = 3 ∨ K = 5 ∨ K = 6) : hk4 (mkS T F nx) (some a) = K := by
  have := kd_T h
  simp only [hk4, mkS, this, Option.map_some]
  rw [if_pos hK]
theorem gI4_mk {T : Nat → Option (Nat × Nat)} {F : Nat → Nat → Value} {nx a K k : Nat} (h : kd T a = some K) (hK : K = 2 ∨ K = 3 ∨ K = 5 ∨ K = 6) : gI4 (mkS T F nx) k (some a) = vI (F a k) := by
  simp only [gI4, hk4_mk h hK, show ¬ K = 99 by omega, if_false, gI_mk h]
section SL
variable {T : Nat → Option (Nat × Nat)} {F G : Nat → Nat → Value} {nx nx2 c nW fu sa ca ba K f n bf z j wy ja qu : Nat}
theorem s_loop (hx : xS T F c nW sa ca ba K f n) (hxb : sX T F nW wy ba bf n) (hja : kd T ja = some 4) (hj9 : F ja 9 = .ref sa) (hfu : 1001 < fu) (hqu : qu ≤ 1000) : ∀ (r m x2 o : Nat) (gi fi : Nat → Int32) (ar : Nat → Nat → Int32) (w : Nat → Int32), x2 + r = qu → r < m → mS T z nW fi ar j f n → sM ar nW wy j f n bf → fi 2 = nI qu → gi 2 = nI n → gi 3 = nI o → o ≤ 1 → ar 14 j = nI (1 - o) → (o = 0 → SR wy K gi fi w n bf) →
    ∃ k gi' fi' w' o', fX4_compareUpTo_2 fu m (xs T F nx c sa ca ba K gi w) ja (nI qu) (nI x2) = fX4_compareUpTo_37 fu (xs T F nx c sa ca ba K gi' w') ja (nI (x2 + k)) ∧
      fX10_tick_29 fu m (mw T G nx2 z fi (aw ar w)) z (nI j) (nI x2) = fX10_tick_82 fu (mw T G nx2 z fi' (aw (ua (ua ar 8 j (ar 8 j + nI k)) 14 j (nI (1 - o'))) w')) z (nI j) ∧
      o' ≤ 1 ∧ gi' 2 = nI n ∧ gi' 3 = nI o' ∧ fi' 17 = fi 17 + nI k ∧ (∀ q, q < 22 → q ≠ 17 → fi' q = fi q) ∧ (o' = 0 → SR wy K gi' fi' w' n bf) ∧ wfr w w' f n bf (bz wy n) := by
  have hne : ja ≠ sa := fun e => by
    have h1 := xs_k hx
    have h2 := hx.2.2.2.2.2.2.2.2.2.2.2.1
    rw [← e, hja] at h1; injection h1 with h1; omega
  have hne2 : ja ≠ c + 2 := fun e => by
    have h1 := hx.2.1
    rw [← e, hja] at h1; injection h1 with h1; omega
  have h9 : ∀ (gi w : Nat → Int32), gR (xs T F nx c sa ca ba K gi w) 4 9 (some ja) = some (some sa) := fun gi w => by
    rw [gR_mk hja, xs_o hx hne hne2, hj9]; rfl
  have self : ∀ (ar : Nat → Nat → Int32) (o : Nat), ar 14 j = nI (1 - o) → ua (ua ar 8 j (ar 8 j + nI 0)) 14 j (nI (1 - o)) = ar := fun ar o h => by
    funext k' j'
    simp only [ua]
    split
    · rename_i e; rw [e.1, e.2, h]
    · split
      · rename_i e; rw [e.1, e.2]; exact Int32.add_zero _
      · rfl
  intro r
  induction r with
  | zero =>
    intro m x2 o gi fi ar w h1 h2 hm hmb h3 h4 h5 h6 h7 h8
    obtain ⟨m, rfl⟩ : ∃ k, m = k + 1 := ⟨m - 1, by omega⟩
    have hT := hm.1
    refine ⟨0, gi, fi, w, o, ?_, ?_, h6, h4, h5, (Int32.add_zero _).symm, fun _ _ _ => rfl, h8, wfr.rf _ _ _ _ _⟩
    · simp only [fX4_compareUpTo_2, nI_le (show qu ≤ x2 by omega) (by omega), if_true]; rfl
    · rw [self ar o h7]
      simp +decide only [fX10_tick_29, Option.bind_some, bn2_s, zz_0, zz_1, if_true, if_false, ite_true, ite_false, vI_i, vR_n, vR_r, vR_v, reduceCtorEq, gI_m hT, gR_m hT, rcv_m hT, pV_m hT, aI_24 hT, sV_24 hT, aI_3 hT, sV_3 hT, aI_18 hT, sV_18 hT, aI_19 hT, sV_19 hT, aI_mZ hT, sV_mZ hT, ui_s, ui_n, ua_s, ua_k, h3, nI_le (show qu ≤ x2 by omega) (by omega)]
  | succ r ih =>
    intro m x2 o gi fi ar w h1 h2 hm hmb h3 h4 h5 h6 h7 h8
    obtain ⟨m, rfl⟩ : ∃ k, m = k + 1 := ⟨m - 1, by omega⟩
    have hT := hm.1
    have hj := hm.2.2.1
    have hq : ¬ nI qu ≤ nI x2 := nI_ge (by omega) (by omega)
    by_cases ho : o = 0
    · subst ho
      have hm1 : mS T z nW (ui fi 17 (fi 17 + 1)) (ua ar 8 j (ar 8 j + 1)) j f n := by
        obtain ⟨a1, a2, a3, a4, a5, a6, a7⟩ := hm
        exact ⟨a1, by rw [ui_n _ _ (by omega)]; exact a2, a3, by rw [ua_k _ _ _ _ (by omega)]; exact a4, a5, by rw [ui_n _ _ (by omega)]; exact a6, a7⟩
      have hmb1 : sM (ua ar 8 j (ar 8 j + 1)) nW wy j f n bf := by
        obtain ⟨a1, a2, a3⟩ := hmb
        exact ⟨by rw [ua_k _ _ _ _ (by omega)]; exact a1, a2, fun h => by rw [ua_k _ _ _ _ (by omega)]; exact a3 h⟩
      have hR1 : SR wy K gi (ui fi 17 (fi 17 + 1)) w n bf := (h8 rfl).fi (fun k k1 k2 => by rw [ui_n _ _ (by omega)])
      obtain ⟨o1, gi1, fi1, w1, s1, s2, s3, s4, s5, s6, s7, s8⟩ := s_step (nx := nx) (nx2 := nx2) (G := G) hx hxb hm1 hmb1 hfu hR1
      have hm2 : mS T z nW fi1 (ua (ua ar 8 j (ar 8 j + 1)) 14 j (nI (1 - o1))) j f n := by
        obtain ⟨a1, a2, a3, a4, a5, a6, a7⟩ := hm1.fx s6
        exact ⟨a1, a2, a3, by rw [ua_k _ _ _ _ (by omega)]; exact a4, a5, a6, a7⟩
      have hmb2 : sM (ua (ua ar 8 j (ar 8 j + 1)) 14 j (nI (1 - o1))) nW wy j f n bf := by
        obtain ⟨a1, a2, a3⟩ := hmb1
        exact ⟨by rw [ua_k _ _ _ _ (by omega)]; exact a1, a2, fun h => by rw [ua_k _ _ _ _ (by omega)]; exact a3 h⟩
      obtain ⟨k, gi2, fi2, w2, o2, t1, t2, t3, t4, t5, t6, t7, t8, t9⟩ := ih m (x2 + 1) o1 gi1 fi1 _ w1 (by omega) (by omega) hm2 hmb2 (by rw [s6 2 (by omega), ui_n _ _ (by omega)]; exact h3) s4 s5 s3 (by simp [ua]) s7
      refine ⟨k + 1, gi2, fi2, w2, o2, ?_, ?_, t3, t4, t5, ?_, ?_, t8, s8.tr t9⟩
      · simp only [fX4_compareUpTo_2, hq, if_false, h9, Option.bind_some, reduceCtorEq, gI4_x3 hx, h5, show nI 0 = (0 : Int32) from rfl, if_true, s1, bn2_s, nI_ad1]
        rw [t1, show x2 + 1 + k = x2 + (k + 1) by omega]
      · have hz : (nI (1 - 0) : Int32) ≠ 0 := by decide
        have hzz : zz (nI (1 - o1)) = some (nI (1 - o1)) := by
          rcases (show o1 = 0 ∨ o1 = 1 by omega) with rfl | rfl <;> rfl
        simp +decide only [fX10_tick_29, Option.bind_some, bn2_s, zz_0, zz_1, if_true, if_false, ite_true, ite_false, vI_i, vR_n, vR_r, vR_v, reduceCtorEq, gI_m hT, gR_m hT, rcv_m hT, pV_m hT, aI_24 hT, sV_24 hT, aI_3 hT, sV_3 hT, aI_18 hT, sV_18 hT, aI_19 hT, sV_19 hT, aI_mZ hT, sV_mZ hT, ui_s, ui_n, ua_s, ua_k, h3, hq, hj, aw_n, h7, ua_awc, s2, hzz, nI_ad1]
        rw [t2]
        congr 3
        funext k' j'
        simp only [ua]
        by_cases e1 : k' = 14 ∧ j' = j
        · simp [e1]
        · simp only [e1, if_false]
          by_cases e2 : k' = 8 ∧ j' = j
          · simp only [e2, and_self, if_true]
            rw [if_neg (by decide)]
            rw [Int32.add_assoc, show (1 : Int32) + nI k = nI (k + 1) by rw [Nat.add_comm]; exact nI_add 1 k]
          · simp [e2]
      · rw [t6, s6 17 (by omega), ui_s, Int32.add_assoc, show (1 : Int32) + nI k = nI (k + 1) by rw [Nat.add_comm]; exact nI_add 1 k]
      · intro q q1 q2
        rw [t7 q q1 q2, s6 q q1, ui_n _ _ q2]
    · have ho1 : o = 1 := by omega
      subst ho1
      refine ⟨0, gi, fi, w, 1, ?_, ?_, h6, h4, h5, (Int32.add_zero _).symm, fun _ _ _ => rfl, h8, wfr.rf _ _ _ _ _⟩
      · have hz : ¬ (nI 1 : Int32) = 0 := by decide
        simp only [fX4_compareUpTo_2, hq, if_false, h9, Option.bind_some, reduceCtorEq, gI4_x3 hx, h5, hz]; rfl
      · rw [self ar 1 h7]
        have hz : (nI (1 - 1) : Int32) = 0 := rfl
        simp +decide only [fX10_tick_29, Option.bind_some, bn2_s, zz_0, zz_1, if_true, if_false, ite_true, ite_false, vI_i, vR_n, vR_r, vR_v, reduceCtorEq, gI_m hT, gR_m hT, rcv_m hT, pV_m hT, aI_24 hT, sV_24 hT, aI_3 hT, sV_3 hT, aI_18 hT, sV_18 hT, aI_19 hT, sV_19 hT, aI_mZ hT, sV_mZ hT, ui_s, ui_n, ua_s, ua_k, h3, hq, hj, aw_n, h7, hz]
end SL
