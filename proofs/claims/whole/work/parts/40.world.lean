/-! PURE: worlds as kinds T and contents F -/
def mkS (T : Nat → Option (Nat × Nat)) (F : Nat → Nat → Value) (nx : Nat) : hS := (fun q => (T q).map (fun c => (c.1, c.2, F q)), nx)
def u2 (F : Nat → Nat → Value) (a f : Nat) (v : Value) : Nat → Nat → Value := fun q k => if q = a ∧ k = f then v else F q k
def kd (T : Nat → Option (Nat × Nat)) (a : Nat) : Option Nat := (T a).map (fun c => c.1)
def ln (T : Nat → Option (Nat × Nat)) (a : Nat) : Nat := match T a with
  | some c => c.2
  | none => 0
section PW
variable {T : Nat → Option (Nat × Nat)} {F : Nat → Nat → Value} {nx a k f : Nat} {v : Value}
theorem kd_T (h : kd T a = some k) : T a = some (k, ln T a) := by
  unfold kd at h
  unfold ln
  cases hT : T a with
  | none => rw [hT] at h; cases h
  | some c => rw [hT] at h; cases h; rfl
theorem hc_mk (h : kd T a = some k) : hc (mkS T F nx) k (some a) = some (a, ln T a, F a) := by
  have hT := kd_T h
  simp [hc, mkS, hT]
theorem gI_mk (h : kd T a = some k) : gI (mkS T F nx) k f (some a) = vI (F a f) := by simp [gI, hc_mk h]
theorem gR_mk (h : kd T a = some k) : gR (mkS T F nx) k f (some a) = vR (F a f) := by simp [gR, hc_mk h]
theorem rcv_mk (h : kd T a = some k) : rcv (mkS T F nx) k (some a) = some a := by simp [rcv, hc_mk h]
theorem hset_mk (h : kd T a = some k) : hset (mkS T F nx) a (k, ln T a, updV (F a) f v) = mkS T (u2 F a f v) nx := by
  have hT := kd_T h
  unfold hset mkS
  congr 1
  funext q
  by_cases e : q = a
  · subst e
    simp only [if_pos rfl, hT, Option.map_some, Option.some.injEq, Prod.mk.injEq, true_and, if_true]
    funext j
    simp [updV, u2]
  · simp only [if_neg e]
    congr 1
    funext c
    congr 2
    funext j
    simp [u2, e]
theorem pV_mk (h : kd T a = some k) : pV (mkS T F nx) k f (some a) v = some (mkS T (u2 F a f v) nx) := by simp [pV, hc_mk h, hset_mk h]
theorem nI_c {i : Nat} (h : i < 2 ^ 31) : (nI i).toNatClampNeg = i := nI_clamp h
theorem aI_mk {i : Nat} (h : kd T a = some k) (hi : i < ln T a) (hn : ln T a < 2 ^ 31) : aI (mkS T F nx) k (some a) (nI i) = vI (F a i) := by
  have h0 := nI_pos (n := i) (by omega)
  simp only [aI, hc_mk h, Option.bind_some, nI_c (show i < 2 ^ 31 by omega), h0, false_or]
  rw [if_neg (by omega)]
theorem aR_mk {i : Nat} (h : kd T a = some 12) (hi : i < ln T a) (hn : ln T a < 2 ^ 31) : aR (mkS T F nx) (some a) (nI i) = vR (F a i) := by
  have h0 := nI_pos (n := i) (by omega)
  simp only [aR, hc_mk h, Option.bind_some, nI_c (show i < 2 ^ 31 by omega), h0, false_or]
  rw [if_neg (by omega)]
theorem aL_mk (h : kd T a = some k) : aL (mkS T F nx) k (some a) = some (nI (ln T a)) := by simp [aL, hc_mk h, nI]
theorem sV_mk {i : Nat} (h : kd T a = some k) (hi : i < ln T a) (hn : ln T a < 2 ^ 31) : sV (mkS T F nx) k (some a) (nI i) v = some (mkS T (u2 F a i v) nx) := by
  have h0 := nI_pos (n := i) (by omega)
  simp only [sV, hc_mk h, Option.bind_some, nI_c (show i < 2 ^ 31 by omega), h0, false_or]
  rw [if_neg (by omega), hset_mk h]
theorem sR_mkN {i : Nat} (h : kd T a = some 12) (hi : i < ln T a) (hn : ln T a < 2 ^ 31) : sR (mkS T F nx) (some a) (nI i) none = some (mkS T (u2 F a i .null) nx) := by
  simp only [sR, if_true, sV_mk h hi hn]
theorem sR_mkS {i b : Nat} (h : kd T a = some 12) (hb : kd T b = some 4) (hi : i < ln T a) (hn : ln T a < 2 ^ 31) : sR (mkS T F nx) (some a) (nI i) (some b) = some (mkS T (u2 F a i (.ref b)) nx) := by
  simp only [sR, rcv_mk hb, Option.bind_some, sV_mk h hi hn]
  simp
theorem hpush_mk {n : Nat} {V : Nat → Value} (hT : T nx = none) : hpush (mkS T F nx) (k, n, V) = mkS (fun q => if q = nx then some (k, n) else T q) (fun q => if q = nx then V else F q) (nx + 1) := by
  unfold hpush mkS
  simp only
  congr 1
  funext q
  by_cases e : q = nx
  · simp [e]
  · simp [e]
theorem nA_mk {B n : Nat} (hT : T nx = none) (hn : n ≤ B) (hB : B < 2 ^ 31) : nA (mkS T F nx) k B (nI n) v = some (some nx, mkS (fun q => if q = nx then some (k, n) else T q) (fun q => if q = nx then (fun _ => v) else F q) (nx + 1)) := by
  have h0 := nI_pos (n := n) (by omega)
  simp only [nA, h0, false_or, nI_c (show n < 2 ^ 31 by omega)]
  rw [if_neg (by omega), hpush_mk hT]
  rfl
theorem nO_mk (hT : T nx = none) : nO (mkS T F nx) k = mkS (fun q => if q = nx then some (k, hNf k) else T q) (fun q => if q = nx then hdf k else F q) (nx + 1) := hpush_mk hT
theorem mkS_2 : (mkS T F nx).2 = nx := rfl
theorem aC_mk {sp dp n : Nat} {w : Nat → Int32} (h : kd T a = some 10) (hw : F a = fun i => .int (w i)) (h1 : sp + n ≤ ln T a) (h2 : dp + n ≤ ln T a) (hn : ln T a < 2 ^ 31) : aC (mkS T F nx) (some a) (nI sp) (some a) (nI dp) (nI n) = some (mkS T (fun q => if q = a then (fun i => .int (va_cpy w w sp dp n i)) else F q) nx) := by
  have g1 := nI_pos (n := sp) (by omega)
  have g2 := nI_pos (n := dp) (by omega)
  have g3 := nI_pos (n := n) (by omega)
  simp only [aC, hc_mk h, Option.bind_some, nI_c (show sp < 2 ^ 31 by omega), nI_c (show dp < 2 ^ 31 by omega), nI_c (show n < 2 ^ 31 by omega), g1, g2, g3, false_or]
  rw [if_neg (by omega), if_pos (by intro i _; rw [hw]; rfl)]
  congr 1
  unfold hset mkS
  congr 1
  funext q
  by_cases e : q = a
  · subst e
    simp only [if_pos rfl, kd_T h, Option.map_some, Option.some.injEq, Prod.mk.injEq, true_and, if_true]
    funext i
    rw [hw]
    simp only [va_cpy]
    split <;> rfl
  · simp only [if_neg e]
end PW
theorem vI_i (x : Int32) : vI (.int x) = some x := rfl
theorem vR_n : vR .null = some none := rfl
theorem vR_r (a : Nat) : vR (.ref a) = some (some a) := rfl
theorem vR_v (r : Option Nat) : vR (va_rf r) = some r := by cases r <;> rfl
theorem bn2_s {α β γ : Type} (a : α) (b : β) (g : α → β → Option γ) : bn2 (some (a, b)) g = g a b := rfl
theorem zz_0 : zz 0 = some 0 := rfl
theorem zz_1 : zz 1 = some 1 := rfl
/-! the reference's world: its object at z, its rows behind it; fi its ints, ar its rows by field -/
def mo (k : Nat) : Nat := match k with
  | 3 => 14
  | 4 => 1
  | 5 => 2
  | 6 => 3
  | 7 => 4
  | 8 => 5
  | 9 => 6
  | 10 => 7
  | 11 => 8
  | 12 => 9
  | 13 => 10
  | 14 => 11
  | 18 => 12
  | 19 => 13
  | _ => 0
def mfo (o : Nat) : Nat := match o with
  | 14 => 3
  | 1 => 4
  | 2 => 5
  | 3 => 6
  | 4 => 7
  | 5 => 8
  | 6 => 9
  | 7 => 10
  | 8 => 11
  | 9 => 12
  | 10 => 13
  | 11 => 14
  | 12 => 18
  | _ => 19
theorem mo_le (k : Nat) : mo k ≤ 14 := by unfold mo; split <;> omega
theorem mfo_mo (k : Nat) (h : mo k ≠ 0) : mfo (mo k) = k := by
  unfold mo at h ⊢
  split <;> first | rfl | (exfalso; revert h; simp_all)
def mF (G : Nat → Nat → Value) (z : Nat) (fi : Nat → Int32) (ar : Nat → Nat → Int32) : Nat → Nat → Value := fun q =>
  if q = z then (fun k => if mo k = 0 then .int (fi k) else .ref (z + mo k)) else if z < q ∧ q ≤ z + 14 then (fun j => .int (ar (mfo (q - z)) j)) else G q
def ui (fi : Nat → Int32) (k : Nat) (x : Int32) : Nat → Int32 := fun k' => if k' = k then x else fi k'
def ua (ar : Nat → Nat → Int32) (k j : Nat) (x : Int32) : Nat → Nat → Int32 := fun k' j' => if k' = k ∧ j' = j then x else ar k' j'
abbrev mw (T : Nat → Option (Nat × Nat)) (G : Nat → Nat → Value) (nx z : Nat) (fi : Nat → Int32) (ar : Nat → Nat → Int32) : hS := mkS T (mF G z fi ar) nx
def mlen (nW k : Nat) : Nat := if k = 3 then nW else if k = 18 then 1000 else if k = 19 then 240 else 24
def mkind (k : Nat) : Nat := if k = 14 then 11 else 10
def mT (T : Nat → Option (Nat × Nat)) (z nW : Nat) : Prop := T z = some (9, 32) ∧ nW ≤ 3000 ∧ ∀ k, mo k ≠ 0 → T (z + mo k) = some (mkind k, mlen nW k)
section PM
variable {T : Nat → Option (Nat × Nat)} {G : Nat → Nat → Value} {nx z nW : Nat} {fi : Nat → Int32} {ar : Nat → Nat → Int32}
theorem mF_z : mF G z fi ar z = (fun k => if mo k = 0 then .int (fi k) else .ref (z + mo k)) := by simp [mF]
theorem mF_a {k : Nat} (h : mo k ≠ 0) : mF G z fi ar (z + mo k) = fun j => .int (ar k j) := by
  have h1 := mo_le k
  unfold mF
  rw [if_neg (by omega), if_pos (by omega), show z + mo k - z = mo k by omega, mfo_mo k h]
theorem mF_ui {k : Nat} {x : Int32} (h : mo k = 0) : u2 (mF G z fi ar) z k (.int x) = mF G z (ui fi k x) ar := by
  funext q k'
  by_cases e : q = z
  · subst e
    by_cases e2 : k' = k
    · subst e2; simp [u2, mF, ui, h]
    · simp [u2, mF, ui, e2]
  · simp [u2, mF, e]
theorem mF_ua {k j : Nat} {x : Int32} (h : mo k ≠ 0) : u2 (mF G z fi ar) (z + mo k) j (.int x) = mF G z fi (ua ar k j x) := by
  have h1 := mo_le k
  have h2 := mfo_mo k h
  funext q j'
  by_cases e : q = z + mo k
  · subst e
    rw [mF_a h]
    by_cases e2 : j' = j
    · subst e2; simp [u2, ua]
    · simp only [u2, e2, and_false, if_false]; rw [mF_a h]; simp [ua, e2]
  · simp only [u2, e, false_and, if_false, mF]
    by_cases e3 : q = z
    · simp [e3]
    · simp only [e3, if_false]
      by_cases e4 : z < q ∧ q ≤ z + 14
      · simp only [e4, and_self, if_true]
        have : mfo (q - z) ≠ k := by
          intro e5
          apply e
          rw [← e5]
          have : 1 ≤ q - z ∧ q - z ≤ 14 := by omega
          have hq : q = z + (q - z) := by omega
          generalize q - z = o at *
          rw [hq]
          congr 1
          have : o = 1 ∨ o = 2 ∨ o = 3 ∨ o = 4 ∨ o = 5 ∨ o = 6 ∨ o = 7 ∨ o = 8 ∨ o = 9 ∨ o = 10 ∨ o = 11 ∨ o = 12 ∨ o = 13 ∨ o = 14 := by omega
          rcases this with rfl | rfl | rfl | rfl | rfl | rfl | rfl | rfl | rfl | rfl | rfl | rfl | rfl | rfl <;> rfl
        simp [ua, this]
      · simp [e4]
variable (hT : mT T z nW)
theorem mT_z (hT : mT T z nW) : kd T z = some 9 := by simp [kd, hT.1]
theorem mT_k (hT : mT T z nW) {k : Nat} (h : mo k ≠ 0) : kd T (z + mo k) = some (mkind k) := by simp [kd, hT.2.2 k h]
theorem mT_l (hT : mT T z nW) {k : Nat} (h : mo k ≠ 0) : ln T (z + mo k) = mlen nW k := by simp [ln, hT.2.2 k h]
theorem mT_b (hT : mT T z nW) (k : Nat) : mlen nW k < 2 ^ 31 := by
  have := hT.2.1
  unfold mlen
  split <;> try split <;> try split
  all_goals omega
theorem gI_m (hT : mT T z nW) {k : Nat} (h : mo k = 0) : gI (mw T G nx z fi ar) 9 k (some z) = some (fi k) := by
  rw [gI_mk (mT_z hT), mF_z]; simp [h, vI_i]
theorem gR_m (hT : mT T z nW) {k : Nat} (h : mo k ≠ 0) : gR (mw T G nx z fi ar) 9 k (some z) = some (some (z + mo k)) := by
  rw [gR_mk (mT_z hT), mF_z]; simp [h, vR_r]
theorem rcv_m (hT : mT T z nW) : rcv (mw T G nx z fi ar) 9 (some z) = some z := rcv_mk (mT_z hT)
theorem pV_m (hT : mT T z nW) {k : Nat} {x : Int32} (h : mo k = 0) : pV (mw T G nx z fi ar) 9 k (some z) (.int x) = some (mw T G nx z (ui fi k x) ar) := by
  rw [pV_mk (mT_z hT), mF_ui h]
theorem aI_m (hT : mT T z nW) {k j : Nat} (h : mo k ≠ 0) (h2 : k ≠ 14) (hj : j < mlen nW k) : aI (mw T G nx z fi ar) 10 (some (z + mo k)) (nI j) = some (ar k j) := by
  have hk := mT_k hT h
  rw [show mkind k = 10 by simp [mkind, h2]] at hk
  rw [aI_mk hk (by rw [mT_l hT h]; exact hj) (by rw [mT_l hT h]; exact mT_b hT k), mF_a h]
  rfl
theorem aI_mZ (hT : mT T z nW) {j : Nat} (hj : j < 24) : aI (mw T G nx z fi ar) 11 (some (z + mo 14)) (nI j) = some (ar 14 j) := by
  have hk : kd T (z + mo 14) = some 11 := mT_k hT (k := 14) (by decide)
  rw [aI_mk hk (by rw [mT_l hT (by decide)]; exact hj) (by rw [mT_l hT (by decide)]; exact mT_b hT 14), mF_a (by decide)]
  rfl
theorem sV_m (hT : mT T z nW) {k j : Nat} {x : Int32} (h : mo k ≠ 0) (h2 : k ≠ 14) (hj : j < mlen nW k) : sV (mw T G nx z fi ar) 10 (some (z + mo k)) (nI j) (.int x) = some (mw T G nx z fi (ua ar k j x)) := by
  have hk := mT_k hT h
  rw [show mkind k = 10 by simp [mkind, h2]] at hk
  rw [sV_mk hk (by rw [mT_l hT h]; exact hj) (by rw [mT_l hT h]; exact mT_b hT k), mF_ua h]
theorem sV_mZ (hT : mT T z nW) {j : Nat} {x : Int32} (hj : j < 24) : sV (mw T G nx z fi ar) 11 (some (z + mo 14)) (nI j) (.int x) = some (mw T G nx z fi (ua ar 14 j x)) := by
  have hk : kd T (z + mo 14) = some 11 := mT_k hT (k := 14) (by decide)
  rw [sV_mk hk (by rw [mT_l hT (by decide)]; exact hj) (by rw [mT_l hT (by decide)]; exact mT_b hT 14), mF_ua (by decide)]
theorem aI_24 (hT : mT T z nW) {k j : Nat} (h : mo k ≠ 0 ∧ k ≠ 3 ∧ k ≠ 14 ∧ k ≠ 18 ∧ k ≠ 19) (hj : j < 24) : aI (mw T G nx z fi ar) 10 (some (z + mo k)) (nI j) = some (ar k j) := aI_m hT h.1 h.2.2.1 (by simp [mlen, h]; exact hj)
theorem sV_24 (hT : mT T z nW) {k j : Nat} {x : Int32} (h : mo k ≠ 0 ∧ k ≠ 3 ∧ k ≠ 14 ∧ k ≠ 18 ∧ k ≠ 19) (hj : j < 24) : sV (mw T G nx z fi ar) 10 (some (z + mo k)) (nI j) (.int x) = some (mw T G nx z fi (ua ar k j x)) := sV_m hT h.1 h.2.2.1 (by simp [mlen, h]; exact hj)
theorem aI_3 (hT : mT T z nW) {j : Nat} (hj : j < nW) : aI (mw T G nx z fi ar) 10 (some (z + mo 3)) (nI j) = some (ar 3 j) := aI_m hT (by decide) (by decide) hj
theorem sV_3 (hT : mT T z nW) {j : Nat} {x : Int32} (hj : j < nW) : sV (mw T G nx z fi ar) 10 (some (z + mo 3)) (nI j) (.int x) = some (mw T G nx z fi (ua ar 3 j x)) := sV_m hT (by decide) (by decide) hj
theorem aI_18 (hT : mT T z nW) {j : Nat} (hj : j < 1000) : aI (mw T G nx z fi ar) 10 (some (z + mo 18)) (nI j) = some (ar 18 j) := aI_m hT (by decide) (by decide) hj
theorem sV_18 (hT : mT T z nW) {j : Nat} {x : Int32} (hj : j < 1000) : sV (mw T G nx z fi ar) 10 (some (z + mo 18)) (nI j) (.int x) = some (mw T G nx z fi (ua ar 18 j x)) := sV_m hT (by decide) (by decide) hj
theorem aI_19 (hT : mT T z nW) {j : Nat} (hj : j < 240) : aI (mw T G nx z fi ar) 10 (some (z + mo 19)) (nI j) = some (ar 19 j) := aI_m hT (by decide) (by decide) hj
theorem sV_19 (hT : mT T z nW) {j : Nat} {x : Int32} (hj : j < 240) : sV (mw T G nx z fi ar) 10 (some (z + mo 19)) (nI j) (.int x) = some (mw T G nx z fi (ua ar 19 j x)) := sV_m hT (by decide) (by decide) hj
end PM
theorem ui_s (fi : Nat → Int32) (k : Nat) (x : Int32) : ui fi k x k = x := by simp [ui]
theorem ui_n (fi : Nat → Int32) {k k' : Nat} (x : Int32) (h : k' ≠ k) : ui fi k x k' = fi k' := by simp [ui, h]
theorem ua_s (ar : Nat → Nat → Int32) (k j : Nat) (x : Int32) : ua ar k j x k j = x := by simp [ua]
theorem ua_k (ar : Nat → Nat → Int32) {k k' : Nat} (j j' : Nat) (x : Int32) (h : k' ≠ k) : ua ar k j x k' j' = ar k' j' := by simp [ua, h]
theorem ua_j (ar : Nat → Nat → Int32) (k k' : Nat) {j j' : Nat} (x : Int32) (h : j' ≠ j) : ua ar k j x k' j' = ar k' j' := by simp [ua, h]
theorem nI_10 (j : Nat) : (10 : Int32) * nI j = nI (10 * j) := pk_mul 10 j
theorem nI_ad1 (j : Nat) : nI j + (1 : Int32) = nI (j + 1) := nI_add j 1
theorem nI_ad2 (j : Nat) : nI j + (2 : Int32) = nI (j + 2) := nI_add j 2
theorem nI_ad3 (j : Nat) : nI j + (3 : Int32) = nI (j + 3) := nI_add j 3
theorem nI_ad4 (j : Nat) : nI j + (4 : Int32) = nI (j + 4) := nI_add j 4
theorem nI_ad5 (j : Nat) : nI j + (5 : Int32) = nI (j + 5) := nI_add j 5
theorem nI_ad6 (j : Nat) : nI j + (6 : Int32) = nI (j + 6) := nI_add j 6
theorem nI_ad7 (j : Nat) : nI j + (7 : Int32) = nI (j + 7) := nI_add j 7
theorem nI_ad8 (j : Nat) : nI j + (8 : Int32) = nI (j + 8) := nI_add j 8
theorem nI_ad9 (j : Nat) : nI j + (9 : Int32) = nI (j + 9) := nI_add j 9
