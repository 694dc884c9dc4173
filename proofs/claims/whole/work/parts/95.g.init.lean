/-! the constructors: worlds that grow at their end -/
def tE (T : Nat → Option (Nat × Nat)) (z : Nat) (l : List (Nat × Nat)) : Nat → Option (Nat × Nat) := fun q => if q < z then T q else l[q - z]?
def lgt (ls : List (Nat → Value)) (i : Nat) : Nat → Value := (ls[i]?).getD (fun _ => .null)
def fE (F : Nat → Nat → Value) (z : Nat) (ls : List (Nat → Value)) : Nat → Nat → Value := fun q => if q < z then F q else lgt ls (q - z)
abbrev wE (T : Nat → Option (Nat × Nat)) (F : Nat → Nat → Value) (z k : Nat) (l : List (Nat × Nat)) (ls : List (Nat → Value)) : hS := mkS (tE T z l) (fE F z ls) (z + k)
section EE
variable {T : Nat → Option (Nat × Nat)} {F : Nat → Nat → Value} {z k K n B i f : Nat} {l : List (Nat × Nat)} {ls : List (Nat → Value)} {v : Value}
theorem tE_at (i : Nat) : tE T z l (z + i) = l[i]? := by
  unfold tE
  rw [if_neg (by omega), show z + i - z = i by omega]
theorem fE_at (i : Nat) : fE F z ls (z + i) = lgt ls i := by
  unfold fE
  rw [if_neg (by omega), show z + i - z = i by omega]
theorem tE_push (e : Nat × Nat) (h : l.length = k) : (fun q => if q = z + k then some e else tE T z l q) = tE T z (l ++ [e]) := by
  funext q
  by_cases c : q < z
  · rw [if_neg (by omega)]; simp [tE, c]
  · obtain ⟨j, rfl⟩ : ∃ j, q = z + j := ⟨q - z, by omega⟩
    rw [tE_at, tE_at]
    by_cases c2 : j = k
    · subst c2; rw [if_pos rfl, ← h]; simp
    · rw [if_neg (by omega)]
      by_cases c3 : j < l.length
      · rw [List.getElem?_append_left c3]
      · rw [List.getElem?_eq_none (by omega), List.getElem?_eq_none (by rw [List.length_append]; simp; omega)]
theorem fE_push (e : Nat → Value) (h : ls.length = k) : (fun q => if q = z + k then e else fE F z ls q) = fE F z (ls ++ [e]) := by
  funext q
  by_cases c : q < z
  · rw [if_neg (by omega)]; simp [fE, c]
  · obtain ⟨j, rfl⟩ : ∃ j, q = z + j := ⟨q - z, by omega⟩
    rw [fE_at, fE_at]
    unfold lgt
    by_cases c2 : j = k
    · subst c2; rw [if_pos rfl, ← h]; simp
    · rw [if_neg (by omega)]
      by_cases c3 : j < ls.length
      · rw [List.getElem?_append_left c3]
      · rw [List.getElem?_eq_none (by omega), List.getElem?_eq_none (by rw [List.length_append]; simp; omega)]
theorem wE_nO (h1 : l.length = k) (h2 : ls.length = k) : nO (wE T F z k l ls) K = wE T F z (k + 1) (l ++ [(K, hNf K)]) (ls ++ [hdf K]) := by
  show nO (mkS _ _ _) K = mkS _ _ _
  rw [nO_mk (by rw [tE_at, List.getElem?_eq_none (by omega)]), tE_push _ h1, fE_push _ h2, Nat.add_assoc]
theorem wE_nA (h1 : l.length = k) (h2 : ls.length = k) (hn : n ≤ B) (hB : B < 2 ^ 31) : nA (wE T F z k l ls) K B (nI n) v = some (some (z + k), wE T F z (k + 1) (l ++ [(K, n)]) (ls ++ [fun _ => v])) := by
  show nA (mkS _ _ _) K B (nI n) v = some (some (z + k), mkS _ _ _)
  rw [nA_mk (by rw [tE_at, List.getElem?_eq_none (by omega)]) hn hB, tE_push _ h1, fE_push _ h2, Nat.add_assoc]
theorem wE_kd (h : (l[i]?).map (fun c => c.1) = some K) : kd (tE T z l) (z + i) = some K := by
  unfold kd
  rw [tE_at]; exact h
theorem fE_u2 (hi : i < ls.length) : u2 (fE F z ls) (z + i) f v = fE F z (ls.set i (updV (lgt ls i) f v)) := by
  funext q
  by_cases c : q < z
  · rw [u2_q (by omega)]; simp [fE, c]
  · obtain ⟨j, rfl⟩ : ∃ j, q = z + j := ⟨q - z, by omega⟩
    by_cases e : j = i
    · subst e
      rw [fE_at]
      funext k
      have : lgt (ls.set j (updV (lgt ls j) f v)) j = updV (lgt ls j) f v := by
        unfold lgt
        rw [List.getElem?_set_self hi]; rfl
      rw [this]
      unfold updV
      by_cases e2 : k = f
      · subst e2; rw [u2_s]; simp
      · rw [u2_k e2, fE_at]; simp [e2]
    · rw [u2_q (by omega), fE_at, fE_at]
      unfold lgt
      rw [List.getElem?_set_ne (Ne.symm e)]
theorem wE_pV (h : (l[i]?).map (fun c => c.1) = some K) (hi : i < ls.length) : pV (wE T F z k l ls) K f (some (z + i)) v = some (wE T F z k l (ls.set i (updV (lgt ls i) f v))) := by
  show pV (mkS _ _ _) K f (some (z + i)) v = some (mkS _ _ _)
  rw [pV_mk (wE_kd h), fE_u2 hi]
theorem wE_gR (h : (l[i]?).map (fun c => c.1) = some K) : gR (wE T F z k l ls) K f (some (z + i)) = vR (lgt ls i f) := by
  show gR (mkS _ _ _) K f (some (z + i)) = _
  rw [gR_mk (wE_kd h), fE_at]
theorem wE_gI (h : (l[i]?).map (fun c => c.1) = some K) : gI (wE T F z k l ls) K f (some (z + i)) = vI (lgt ls i f) := by
  show gI (mkS _ _ _) K f (some (z + i)) = _
  rw [gI_mk (wE_kd h), fE_at]
end EE
theorem near {lo hi : Nat} (h : lo ≤ hi) (hh : hi < 2 ^ 31) (x : Int32) : ∃ k, lo ≤ k ∧ k ≤ hi ∧ imx (nI lo) (imn (nI hi) x) = nI k := by
  unfold imx imn
  by_cases c1 : x < nI hi
  · rw [if_pos c1]
    by_cases c2 : nI lo < x
    · rw [if_pos c2]
      have c0 : ¬ x < 0 := by
        intro z
        have a1 := Int32.lt_iff_toInt_lt.mp z
        have a2 := Int32.lt_iff_toInt_lt.mp c2
        rw [nI_toInt (by omega)] at a2
        have a3 : (0 : Int32).toInt = 0 := by decide
        omega
      obtain ⟨k, k1, rfl⟩ := nI_of c0
      have b1 := (nI_ltI k1 hh).mp c1
      have b2 := (nI_ltI (by omega) k1).mp c2
      exact ⟨k, by omega, by omega, rfl⟩
    · rw [if_neg c2]; exact ⟨lo, Nat.le_refl _, h, rfl⟩
  · rw [if_neg c1]
    by_cases c2 : nI lo < nI hi
    · rw [if_pos c2]; exact ⟨hi, h, Nat.le_refl _, rfl⟩
    · rw [if_neg c2]; exact ⟨lo, Nat.le_refl _, h, rfl⟩
def fK (c : Nat) (qu : Int32) : Nat → Value := fun k => if k = 0 then .ref (c + 1) else if k = 1 then .ref (c + 4) else if k = 2 then .ref (c + 5) else if k = 3 then .int qu else .int 0
/-- a new object of the class -/
theorem x_new {fu c nW nJ qu : Nat} {x1 x2 x3 : Int32} (h1 : imx (8 : Int32) (imn (3000 : Int32) x1) = nI nW) (h2 : imx (1 : Int32) (imn (24 : Int32) x2) = nI nJ) (h3 : imx (1 : Int32) (imn (200 : Int32) x3) = nI qu) (w1 : nW ≤ 3000) (w2 : nJ ≤ 24) : ∃ fs : List (Nat → Value), fX9_init fu (nO ((fun _ => none, c) : hS) 8) c x1 x2 x3 = some ((), wE (fun _ => none) (fun _ _ => .null) c 6 [(8, 6), (0, 2), (10, nW), (1, 3), (12, nJ), (7, 1)] fs) ∧ fs.length = 6 ∧
    (lgt fs 0 0 = .ref (c + 1) ∧ lgt fs 0 1 = .ref (c + 4) ∧ lgt fs 0 2 = .ref (c + 5) ∧ lgt fs 0 3 = .int (nI qu) ∧ lgt fs 0 4 = .int 0 ∧ lgt fs 0 5 = .int 0) ∧ (lgt fs 1 0 = .ref (c + 2) ∧ lgt fs 1 1 = .ref (c + 3)) ∧ lgt fs 2 = (fun _ => .int 0) ∧ (lgt fs 3 0 = .int 0 ∧ lgt fs 3 1 = .int 0 ∧ lgt fs 3 2 = .null) ∧ lgt fs 4 = (fun _ => .null) ∧ lgt fs 5 0 = .null := by
  have e0 : ((fun _ => none, c) : hS) = wE (fun _ => none) (fun _ _ => .null) c 0 [] [] := by
    show _ = mkS _ _ _
    unfold mkS
    congr 1
    funext q
    unfold tE
    split <;> rfl
  have im0 : imx (nI nW) (0 : Int32) = nI nW := by
    unfold imx
    rw [if_neg (nI_pos (by omega))]
  have n8 : nO (wE (fun _ => none) (fun _ _ => .null) c 0 [] []) 8 = wE (fun _ => none) (fun _ _ => .null) c 1 [(8, 6)] [hdf 8] := wE_nO rfl rfl
  have n0 : nO (wE (fun _ => none) (fun _ _ => .null) c 1 [(8, 6)] [hdf 8]) 0 = wE (fun _ => none) (fun _ _ => .null) c 2 [(8, 6), (0, 2)] [hdf 8, hdf 0] := wE_nO rfl rfl
  have a10 : nA (wE (fun _ => none) (fun _ _ => .null) c 2 [(8, 6), (0, 2)] [hdf 8, hdf 0]) 10 3000 (nI nW) (.int 0) = some (some (c + 2), wE (fun _ => none) (fun _ _ => .null) c 3 [(8, 6), (0, 2), (10, nW)] [hdf 8, hdf 0, fun _ => .int 0]) := wE_nA rfl rfl w1 (by omega)
  have p1 : pV (wE (fun _ => none) (fun _ _ => .null) c 3 [(8, 6), (0, 2), (10, nW)] [hdf 8, hdf 0, fun _ => .int 0]) 0 0 (some (c + 1)) (.ref (c + 2)) = some (wE (fun _ => none) (fun _ _ => .null) c 3 [(8, 6), (0, 2), (10, nW)] [hdf 8, updV (hdf 0) 0 (.ref (c + 2)), fun _ => .int 0]) := wE_pV (i := 1) rfl (by simp)
  have n1 : nO (wE (fun _ => none) (fun _ _ => .null) c 3 [(8, 6), (0, 2), (10, nW)] [hdf 8, updV (hdf 0) 0 (.ref (c + 2)), fun _ => .int 0]) 1 = wE (fun _ => none) (fun _ _ => .null) c 4 [(8, 6), (0, 2), (10, nW), (1, 3)] [hdf 8, updV (hdf 0) 0 (.ref (c + 2)), fun _ => .int 0, hdf 1] := wE_nO rfl rfl
  have p2 : pV (wE (fun _ => none) (fun _ _ => .null) c 4 [(8, 6), (0, 2), (10, nW), (1, 3)] [hdf 8, updV (hdf 0) 0 (.ref (c + 2)), fun _ => .int 0, hdf 1]) 1 0 (some (c + 3)) (.int (-1)) = some (wE (fun _ => none) (fun _ _ => .null) c 4 [(8, 6), (0, 2), (10, nW), (1, 3)] [hdf 8, updV (hdf 0) 0 (.ref (c + 2)), fun _ => .int 0, updV (hdf 1) 0 (.int (-1))]) := wE_pV (i := 3) rfl (by simp)
  have p3 : pV (wE (fun _ => none) (fun _ _ => .null) c 4 [(8, 6), (0, 2), (10, nW), (1, 3)] [hdf 8, updV (hdf 0) 0 (.ref (c + 2)), fun _ => .int 0, updV (hdf 1) 0 (.int (-1))]) 0 1 (some (c + 1)) (.ref (c + 3)) = some (wE (fun _ => none) (fun _ _ => .null) c 4 [(8, 6), (0, 2), (10, nW), (1, 3)] [hdf 8, updV (updV (hdf 0) 0 (.ref (c + 2))) 1 (.ref (c + 3)), fun _ => .int 0, updV (hdf 1) 0 (.int (-1))]) := wE_pV (i := 1) rfl (by simp)
  have g1 : gR (wE (fun _ => none) (fun _ _ => .null) c 4 [(8, 6), (0, 2), (10, nW), (1, 3)] [hdf 8, updV (updV (hdf 0) 0 (.ref (c + 2))) 1 (.ref (c + 3)), fun _ => .int 0, updV (hdf 1) 0 (.int (-1))]) 0 1 (some (c + 1)) = some (some (c + 3)) := wE_gR (i := 1) rfl
  have p4 : pV (wE (fun _ => none) (fun _ _ => .null) c 4 [(8, 6), (0, 2), (10, nW), (1, 3)] [hdf 8, updV (updV (hdf 0) 0 (.ref (c + 2))) 1 (.ref (c + 3)), fun _ => .int 0, updV (hdf 1) 0 (.int (-1))]) 1 0 (some (c + 3)) (.int 0) = some (wE (fun _ => none) (fun _ _ => .null) c 4 [(8, 6), (0, 2), (10, nW), (1, 3)] [hdf 8, updV (updV (hdf 0) 0 (.ref (c + 2))) 1 (.ref (c + 3)), fun _ => .int 0, updV (updV (hdf 1) 0 (.int (-1))) 0 (.int 0)]) := wE_pV (i := 3) rfl (by simp)
  generalize hA : updV (updV (hdf 0) 0 (.ref (c + 2))) 1 (.ref (c + 3)) = fA at p3 g1 p4
  generalize hB : updV (updV (hdf 1) 0 (.int (-1))) 0 (.int 0) = fB at p4
  have p5 : pV (wE (fun _ => none) (fun _ _ => .null) c 4 [(8, 6), (0, 2), (10, nW), (1, 3)] [hdf 8, fA, fun _ => .int 0, fB]) 8 0 (some c) (.ref (c + 1)) = some (wE (fun _ => none) (fun _ _ => .null) c 4 [(8, 6), (0, 2), (10, nW), (1, 3)] [updV (hdf 8) 0 (.ref (c + 1)), fA, fun _ => .int 0, fB]) := wE_pV (i := 0) rfl (by simp)
  have a12 : nA (wE (fun _ => none) (fun _ _ => .null) c 4 [(8, 6), (0, 2), (10, nW), (1, 3)] [updV (hdf 8) 0 (.ref (c + 1)), fA, fun _ => .int 0, fB]) 12 24 (nI nJ) .null = some (some (c + 4), wE (fun _ => none) (fun _ _ => .null) c 5 [(8, 6), (0, 2), (10, nW), (1, 3), (12, nJ)] [updV (hdf 8) 0 (.ref (c + 1)), fA, fun _ => .int 0, fB, fun _ => .null]) := wE_nA rfl rfl w2 (by omega)
  have p6 : pV (wE (fun _ => none) (fun _ _ => .null) c 5 [(8, 6), (0, 2), (10, nW), (1, 3), (12, nJ)] [updV (hdf 8) 0 (.ref (c + 1)), fA, fun _ => .int 0, fB, fun _ => .null]) 8 1 (some c) (.ref (c + 4)) = some (wE (fun _ => none) (fun _ _ => .null) c 5 [(8, 6), (0, 2), (10, nW), (1, 3), (12, nJ)] [updV (updV (hdf 8) 0 (.ref (c + 1))) 1 (.ref (c + 4)), fA, fun _ => .int 0, fB, fun _ => .null]) := wE_pV (i := 0) rfl (by simp)
  have n7 : nO (wE (fun _ => none) (fun _ _ => .null) c 5 [(8, 6), (0, 2), (10, nW), (1, 3), (12, nJ)] [updV (updV (hdf 8) 0 (.ref (c + 1))) 1 (.ref (c + 4)), fA, fun _ => .int 0, fB, fun _ => .null]) 7 = wE (fun _ => none) (fun _ _ => .null) c 6 [(8, 6), (0, 2), (10, nW), (1, 3), (12, nJ), (7, 1)] [updV (updV (hdf 8) 0 (.ref (c + 1))) 1 (.ref (c + 4)), fA, fun _ => .int 0, fB, fun _ => .null, hdf 7] := wE_nO rfl rfl
  have p7 : pV (wE (fun _ => none) (fun _ _ => .null) c 6 [(8, 6), (0, 2), (10, nW), (1, 3), (12, nJ), (7, 1)] [updV (updV (hdf 8) 0 (.ref (c + 1))) 1 (.ref (c + 4)), fA, fun _ => .int 0, fB, fun _ => .null, hdf 7]) 8 2 (some c) (.ref (c + 5)) = some (wE (fun _ => none) (fun _ _ => .null) c 6 [(8, 6), (0, 2), (10, nW), (1, 3), (12, nJ), (7, 1)] [updV (updV (updV (hdf 8) 0 (.ref (c + 1))) 1 (.ref (c + 4))) 2 (.ref (c + 5)), fA, fun _ => .int 0, fB, fun _ => .null, hdf 7]) := wE_pV (i := 0) rfl (by simp)
  have p8 : pV (wE (fun _ => none) (fun _ _ => .null) c 6 [(8, 6), (0, 2), (10, nW), (1, 3), (12, nJ), (7, 1)] [updV (updV (updV (hdf 8) 0 (.ref (c + 1))) 1 (.ref (c + 4))) 2 (.ref (c + 5)), fA, fun _ => .int 0, fB, fun _ => .null, hdf 7]) 8 3 (some c) (.int (nI qu)) = some (wE (fun _ => none) (fun _ _ => .null) c 6 [(8, 6), (0, 2), (10, nW), (1, 3), (12, nJ), (7, 1)] [updV (updV (updV (updV (hdf 8) 0 (.ref (c + 1))) 1 (.ref (c + 4))) 2 (.ref (c + 5))) 3 (.int (nI qu)), fA, fun _ => .int 0, fB, fun _ => .null, hdf 7]) := wE_pV (i := 0) rfl (by simp)
  refine ⟨[updV (updV (updV (updV (hdf 8) 0 (.ref (c + 1))) 1 (.ref (c + 4))) 2 (.ref (c + 5))) 3 (.int (nI qu)), fA, fun _ => .int 0, fB, fun _ => .null, hdf 7], ?_, ?_⟩
  · rw [e0, n8]
    simp only [fX9_init, fX9_nearest, fX0_init, fX1_init, fX7_init, n0, mkS_2, h1, h2, h3, im0, a10, p1, n1, p2, p3, g1, p4, p5, a12, p6, n7, p7, p8, va_rf, Option.bind_some, bn2_s, zz_0, zz_1, if_true, if_false, ite_true, ite_false, vI_i, vR_n, vR_r, vR_v, reduceCtorEq]
  · refine ⟨rfl, ⟨rfl, rfl, rfl, rfl, rfl, rfl⟩, ⟨?_, ?_⟩, rfl, ⟨?_, ?_, ?_⟩, rfl, rfl⟩
    · show fA 0 = _; rw [← hA]; rfl
    · show fA 1 = _; rw [← hA]; rfl
    · show fB 0 = _; rw [← hB]; rfl
    · show fB 1 = _; rw [← hB]; rfl
    · show fB 2 = _; rw [← hB]; rfl
