section LW
variable {T : Nat → Option (Nat × Nat)} {F : Nat → Nat → Value} {nx c nW nJ st fu : Nat} {fi : Nat → Int32} {ar : Nat → Nat → Int32} {ad da : Nat → Nat} {bl : bL} {ql : List Nat}
theorem inv0 {qu : Nat} {fs : List (Nat → Value)} {F' : Nat → Nat → Value} (w8 : 8 ≤ nW) (w3 : nW ≤ 3000) (j1 : 1 ≤ nJ) (j2 : nJ ≤ 24) (hq : qu ≤ 200)
    (k0 : lgt fs 0 0 = .ref (c + 1) ∧ lgt fs 0 1 = .ref (c + 4) ∧ lgt fs 0 2 = .ref (c + 5) ∧ lgt fs 0 3 = .int (nI qu) ∧ lgt fs 0 4 = .int 0 ∧ lgt fs 0 5 = .int 0) (k1 : lgt fs 1 0 = .ref (c + 2) ∧ lgt fs 1 1 = .ref (c + 3)) (k2 : lgt fs 2 = (fun _ => .int 0)) (k3 : lgt fs 3 0 = .int 0 ∧ lgt fs 3 1 = .int 0 ∧ lgt fs 3 2 = .null) (k4 : lgt fs 4 = (fun _ => .null)) (k5 : lgt fs 5 0 = .null)
    (hm : mF F' (c + 6) (mfi nW nJ qu) (fun _ _ => 0) = F') (hF : ∀ q, q < c + 6 → F' q = fE (fun _ _ => .null) c fs q) :
    INV (tE (tE (fun _ => none) c [(8, 6), (0, 2), (10, nW), (1, 3), (12, nJ), (7, 1)]) (c + 6) [(9, 32), (10, 24), (10, 24), (10, 24), (10, 24), (10, 24), (10, 24), (10, 24), (10, 24), (10, 24), (10, 24), (11, 24), (10, 1000), (10, 240), (10, nW)]) F' (c + 6 + 15) c nW nJ 0 (mfi nW nJ qu) (fun _ _ => 0) (fun _ => 0) (fun _ => 0) [] [] := by
  have tl : ∀ i, i < 6 → tE (tE (fun _ => none) c [(8, 6), (0, 2), (10, nW), (1, 3), (12, nJ), (7, 1)]) (c + 6) [(9, 32), (10, 24), (10, 24), (10, 24), (10, 24), (10, 24), (10, 24), (10, 24), (10, 24), (10, 24), (10, 24), (11, 24), (10, 1000), (10, 240), (10, nW)] (c + i) = [(8, 6), (0, 2), (10, nW), (1, 3), (12, nJ), (7, 1)][i]? := fun i hi => by
    rw [← tE_at (T := fun _ => none) (z := c) (l := [(8, 6), (0, 2), (10, nW), (1, 3), (12, nJ), (7, 1)]) i]
    show (if c + i < c + 6 then _ else _) = _
    rw [if_pos (by omega)]
  have fl : ∀ i, i < 6 → F' (c + i) = lgt fs i := fun i hi => by rw [hF _ (by omega), fE_at]
  have t0 := tl 0 (by omega)
  have t1 := tl 1 (by omega)
  have t2 := tl 2 (by omega)
  have t3 := tl 3 (by omega)
  have t4 := tl 4 (by omega)
  have t5 := tl 5 (by omega)
  have f0 : F' c = lgt fs 0 := fl 0 (by omega)
  have f1 := fl 1 (by omega)
  have f2 := fl 2 (by omega)
  have f3 := fl 3 (by omega)
  have f4 := fl 4 (by omega)
  have f5 := fl 5 (by omega)
  refine ⟨⟨?_, w3, fun k hk => ?_⟩, hm, ⟨⟨rfl, rfl, j1, j2, w8, w3, ⟨qu, rfl, hq⟩, rfl⟩, fun _ _ => rfl, fun j hj => absurd rfl hj, ⟨fun x hx => by (cases hx), fun q _ hl => absurd rfl hl⟩, fun q _ hl => absurd rfl hl, Nat.zero_le _, ⟨List.nodup_nil, fun j => ⟨fun h => by (cases h), fun h => absurd (show (0 : Int32) = 2 from h) (by decide)⟩, List.Pairwise.nil, fun j h => absurd (show (0 : Int32) = 2 from h) (by decide)⟩⟩, ⟨⟨?_, ?_, ?_, ?_, ?_, ?_, ?_, ?_, ?_, ?_, ?_, ?_, ?_⟩, ?_, ?_, fun i => ⟨fun _ => ?_, fun h => absurd rfl h, fun h => absurd (show (0 : Int32) = 2 from h) (by decide)⟩, fun q hq => ?_, by omega⟩⟩
  · exact tE_at 0
  · rw [tE_at]
    unfold mo at hk ⊢
    split at hk <;> first | rfl | exact absurd rfl hk
  · refine ⟨?_, ?_, ?_, w3, ?_, ?_, ?_, ?_⟩
    · unfold kd; rw [t1]; rfl
    · unfold kd; rw [t2]; rfl
    · unfold ln; rw [t2]; rfl
    · unfold kd; rw [t3]; rfl
    · rw [f1]; exact k1.1
    · rw [f1]; exact k1.2
    · rw [f2]; exact k2
  · exact congrArg (Option.map (fun x => x.1)) t0
  · rw [f0]; exact k0.1
  · rw [f0]; exact k0.2.1
  · rw [f0]; exact k0.2.2.1
  · rw [f0]; exact k0.2.2.2.1
  · rw [f0]; exact k0.2.2.2.2.1
  · rw [f0]; exact k0.2.2.2.2.2
  · rw [f3]; exact k3.1
  · rw [f3]; exact k3.2.1
  · unfold kd; rw [t4]; rfl
  · unfold ln; rw [t4]; rfl
  · unfold kd; rw [t5]; rfl
  · show F' (c + 3) 2 = .null
    rw [f3]; exact k3.2.2
  · show F' (c + 5) 0 = .null
    rw [f5]; exact k5
  · rw [f4, k4]; rfl
  · obtain ⟨j, rfl⟩ : ∃ j, q = c + 6 + j := ⟨q - (c + 6), by omega⟩
    rw [tE_at]
    exact List.getElem?_eq_none (by show 15 ≤ j; omega)
theorem hc_rcv {S : hS} {k a : Nat} {y : Nat × Nat × (Nat → Value)} (h : hc S k (some a) = some y) : rcv S k (some a) = some a := by
  obtain ⟨b, n, V⟩ := y
  obtain ⟨h1, h2⟩ := hc_inv h
  injection h1 with h1
  subst h1
  unfold rcv; rw [h]; rfl
theorem rcv_b {α : Type} {S : hS} {k a : Nat} {f : Nat → Option α} {y : α} (h : (rcv S k (some a)).bind f = some y) : rcv S k (some a) = some a := by
  obtain ⟨b, h1, _⟩ := hbind h
  unfold rcv at h1
  obtain ⟨z, h2, _⟩ := hbind h1
  exact hc_rcv h2
theorem rcv_g {α : Type} {S : hS} {k a g : Nat} {f : Int32 → Option α} {y : α} (h : (gI S k g (some a)).bind f = some y) : rcv S k (some a) = some a := by
  obtain ⟨b, h1, _⟩ := hbind h
  unfold gI at h1
  obtain ⟨z, h2, _⟩ := hbind h1
  exact hc_rcv h2
theorem OUT.rcv {S : hS} {st' : Nat} (h : OUT c nW nJ st' S) : rcv S 9 (some (c + 6)) = some (c + 6) := by
  obtain ⟨T, F, nx, fi, ar, ad, da, bl, ql, st2, _, rfl, hI⟩ := h
  exact rcv_mk (mT_z hI.1)
theorem rv_open {S S2 : hS} {st' : Nat} {r x y v : Int32} (hf : 0 < fu) (h : fX10_open fu S (c + 6) x y v = some (r, S2)) (ho : OUT c nW nJ st' S2) : rcv S 9 (some (c + 6)) = some (c + 6) := by
  obtain ⟨m, rfl⟩ : ∃ k, fu = k + 1 := ⟨fu - 1, by omega⟩
  have same : ∀ r', some (r', S) = some (r, S2) → rcv S 9 (some (c + 6)) = some (c + 6) := fun r' z => by
    injection z with z
    injection z with _ z
    rw [z]; exact ho.rcv
  unfold fX10_open at h
  split at h
  · exact same _ h
  · split at h
    · exact same _ h
    · split at h
      · exact same _ h
      · split at h
        · exact same _ h
        · split at h
          · exact same _ h
          · split at h
            · unfold fX10_open_35 at h
              exact rcv_g h
            · exact same _ h
theorem rv_run {S S2 : hS} {st' : Nat} {r x : Int32} (hf : 0 < fu) (h : fX10_run fu S (c + 6) x = some (r, S2)) (ho : OUT c nW nJ st' S2) : rcv S 9 (some (c + 6)) = some (c + 6) := by
  obtain ⟨m, rfl⟩ : ∃ k, fu = k + 1 := ⟨fu - 1, by omega⟩
  have same : ∀ r', some (r', S) = some (r, S2) → rcv S 9 (some (c + 6)) = some (c + 6) := fun r' z => by
    injection z with z
    injection z with _ z
    rw [z]; exact ho.rcv
  unfold fX10_run at h
  split at h
  · exact same _ h
  · split at h
    · unfold fX10_run_16 at h
      split at h
      · exact same _ h
      · exact rcv_b h
    · exact same _ h
theorem law_i {L i : Nat} (hL : L ≤ 2051) (hi : i ≤ 20000) (h : ¬ (Int32.ofNat L - (4 : Int32)) < nI i) : i + 4 ≤ L := by
  have h1 : (Int32.ofNat L - (4 : Int32)).toInt = (L : Int) - 4 := pk_sub_toInt (a := L) (b := 4) (by omega) (by omega)
  have h2 : (nI i).toInt = (i : Int) := nI_toInt (by omega)
  have h3 := Int32.not_lt.mp h
  have h4 := Int32.le_iff_toInt_le.mp h3
  omega
theorem sx_at {xs : Nat → Int32} {L i : Nat} (hi : i < L) (hL : L ≤ 2051) : sx xs L (nI i) = some (xs i) := by
  unfold sx
  rw [if_neg, nI_c (by omega)]
  rintro (h | h)
  · exact nI_pos (by omega) h
  · rw [nI_c (by omega)] at h; omega
set_option maxHeartbeats 4000000 in
theorem law_loop {xs : Nat → Int32} {L : Nat} (hL : L ≤ 2051) (hfu : 3001 < fu) : ∀ (m t : Nat) (S : hS), t ≤ 520 → 520 - t < m → OUT c nW nJ (3001 * t) S → ∃ S', fL_law_48 xs L fu m S (some c) (some (c + 6)) (nI (3 + 4 * t)) = some (1, S') := by
  intro m
  induction m with
  | zero => intro t S _ h; omega
  | succ m ih =>
    intro t S ht hm hO
    by_cases hq : (Int32.ofNat L - (4 : Int32)) < nI (3 + 4 * t)
    · exact ⟨S, by simp only [fL_law_48, hq, if_true, zz_1, Option.bind_some]⟩
    · have hi := law_i hL (by omega) hq
      have x0 := sx_at (xs := xs) (i := 3 + 4 * t) (by omega) hL
      have x1 := sx_at (xs := xs) (i := 3 + 4 * t + 1) (by omega) hL
      have x2 := sx_at (xs := xs) (i := 3 + 4 * t + 2) (by omega) hL
      have x3 := sx_at (xs := xs) (i := 3 + 4 * t + 3) (by omega) hL
      have key : ∀ S2, OUT c nW nJ (3001 * t + 3001) S2 → ∃ S', fL_law_541 xs L fu (fL_law_48 xs L fu m) S2 (some c) (some (c + 6)) (nI (3 + 4 * t)) = some (1, S') := fun S2 h2 => by
        obtain ⟨S', hS⟩ := ih (t + 1) S2 (by omega) (by omega) (by rw [show 3001 * (t + 1) = 3001 * t + 3001 by omega]; exact h2)
        refine ⟨S', ?_⟩
        unfold fL_law_541
        rw [nI_ad4, show 3 + 4 * t + 4 = 3 + 4 * (t + 1) by omega]; exact hS
      have up : ∀ {a : Nat} {S2 : hS}, a ≤ 3001 → OUT c nW nJ (3001 * t + a) S2 → OUT c nW nJ (3001 * t + 3001) S2 := fun ha h2 => by
        obtain ⟨T, F, nx, fi, ar, ad, da, bl, ql, st2, h3, h4, h5⟩ := h2
        exact ⟨T, F, nx, fi, ar, ad, da, bl, ql, st2, by omega, h4, h5⟩
      obtain ⟨T, F, nx, fi, ar, ad, da, bl, ql, st, hst, rfl, hI⟩ := hO
      have lift : ∀ {a : Nat} {S2 : hS}, a ≤ 3001 → OUT c nW nJ (st + a) S2 → OUT c nW nJ (3001 * t + 3001) S2 := fun ha h2 => by
        obtain ⟨T, F, nx, fi, ar, ad, da, bl, ql, st2, h3, h4, h5⟩ := h2
        exact ⟨T, F, nx, fi, ar, ad, da, bl, ql, st2, by omega, h4, h5⟩
      have self : OUT c nW nJ (3001 * t + 3001) (mkS T F nx) := OUT.same hI (by omega)
      have rx : rcv (mkS T F nx) 8 (some c) = some c := rcv_mk hI.2.2.2.1.2.1
      have rm : rcv (mkS T F nx) 9 (some (c + 6)) = some (c + 6) := rcv_mk (mT_z hI.1)
      have same3 : ∀ {f g : hS → Option (Int32 × hS)}, (∃ r, f (mkS T F nx) = some (r, mkS T F nx) ∧ g (mkS T F nx) = some (r, mkS T F nx)) → ∃ r S1 S2, f (mkS T F nx) = some (r, S1) ∧ g S1 = some (r, S2) ∧ rcv S1 9 (some (c + 6)) = some (c + 6) ∧ OUT c nW nJ (3001 * t + 3001) S2 := fun h => by
        obtain ⟨r, a1, a2⟩ := h
        exact ⟨r, _, _, a1, a2, rm, self⟩
      generalize hv : xs (3 + 4 * t) &&& (15 : Int32) = v at *

      by_cases e0 : v = 0
      · obtain ⟨r, S1, S2, h1', h2, h3⟩ := op_open (fu := fu) hI hfu (xs (3 + 4 * t + 1)) (xs (3 + 4 * t + 2)) (xs (3 + 4 * t + 3))
        have h4 : rcv S1 9 (some (c + 6)) = some (c + 6) := rv_open (by omega) h2 h3
        have h2' := h2
        obtain ⟨S', hS⟩ := key S2 (lift (a := 0) (by omega) h3)
        refine ⟨S', ?_⟩
        simp +decide only [fL_law_48, hq, if_false, x0, hv, e0, nI_ad1, nI_ad2, nI_ad3, x1, x2, x3, rx, h1', h4, h2', Option.bind_some, bn2_s, zz_0, zz_1, if_true, if_false, ite_true, ite_false, vI_i, vR_n, vR_r, vR_v, reduceCtorEq]
        exact hS
      by_cases e1 : v = 1
      · obtain ⟨r, S1, S2, h1', h2, h3⟩ := op_put (fu := fu) hI (xs (3 + 4 * t + 1)) (xs (3 + 4 * t + 2)) (xs (3 + 4 * t + 3))
        have h4 : rcv S1 9 (some (c + 6)) = some (c + 6) := rcv_b (by unfold fX10_put at h2; exact h2)
        have h2' := h2
        obtain ⟨S', hS⟩ := key S2 (lift (a := 0) (by omega) h3)
        refine ⟨S', ?_⟩
        simp +decide only [fL_law_48, hq, if_false, x0, hv, e0, e1, nI_ad1, nI_ad2, nI_ad3, x1, x2, x3, rx, h1', h4, h2', Option.bind_some, bn2_s, zz_0, zz_1, if_true, if_false, ite_true, ite_false, vI_i, vR_n, vR_r, vR_v, reduceCtorEq]
        exact hS
      by_cases e2 : v = 2
      · obtain ⟨r, S1, S2, h1', h2, h3⟩ := op_resize (fu := fu) hI hfu (xs (3 + 4 * t + 1)) (xs (3 + 4 * t + 2))
        have h4 : rcv S1 9 (some (c + 6)) = some (c + 6) := rcv_b (by unfold fX10_resize at h2; exact h2)
        have h2' := h2
        obtain ⟨S', hS⟩ := key S2 (lift (a := 0) (by omega) h3)
        refine ⟨S', ?_⟩
        simp +decide only [fL_law_48, hq, if_false, x0, hv, e0, e1, e2, nI_ad1, nI_ad2, nI_ad3, x1, x2, x3, rx, h1', h4, h2', Option.bind_some, bn2_s, zz_0, zz_1, if_true, if_false, ite_true, ite_false, vI_i, vR_n, vR_r, vR_v, reduceCtorEq]
        exact hS
      by_cases e3 : v = 3
      · obtain ⟨r, S1, S2, h1', h2, h3⟩ := op_submit (fu := fu) hI (by omega) (by omega) (xs (3 + 4 * t + 1))
        have h4 : rcv S1 9 (some (c + 6)) = some (c + 6) := rcv_b (by unfold fX10_submit at h2; exact h2)
        have h2' := h2
        obtain ⟨S', hS⟩ := key S2 (lift (a := 1) (by omega) h3)
        refine ⟨S', ?_⟩
        simp +decide only [fL_law_48, hq, if_false, x0, hv, e0, e1, e2, e3, nI_ad1, nI_ad2, nI_ad3, x1, x2, x3, rx, h1', h4, h2', Option.bind_some, bn2_s, zz_0, zz_1, if_true, if_false, ite_true, ite_false, vI_i, vR_n, vR_r, vR_v, reduceCtorEq]
        exact hS
      by_cases e4 : v = 4
      · obtain ⟨r, S1, S2, h1', h2, h3⟩ := op_tick (fu := fu) hI (by omega) (by omega)
        have h4 : rcv S1 9 (some (c + 6)) = some (c + 6) := rcv_g (by unfold fX10_tick at h2; exact h2)
        have h2' := h2
        obtain ⟨S', hS⟩ := key S2 (lift (a := 1) (by omega) h3)
        refine ⟨S', ?_⟩
        simp +decide only [fL_law_48, hq, if_false, x0, hv, e0, e1, e2, e3, e4, nI_ad1, nI_ad2, nI_ad3, x1, x2, x3, rx, h1', h4, h2', Option.bind_some, bn2_s, zz_0, zz_1, if_true, if_false, ite_true, ite_false, vI_i, vR_n, vR_r, vR_v, reduceCtorEq]
        exact hS
      by_cases e5 : v = 5
      · obtain ⟨r, S1, S2, h1', h2, h3⟩ := op_run (fu := fu) hI hfu (by omega) (xs (3 + 4 * t + 1))
        have h4 : rcv S1 9 (some (c + 6)) = some (c + 6) := rv_run (by omega) h2 h3
        have h2' := h2
        obtain ⟨S', hS⟩ := key S2 (lift (a := 3000) (by omega) h3)
        refine ⟨S', ?_⟩
        simp +decide only [fL_law_48, hq, if_false, x0, hv, e0, e1, e2, e3, e4, e5, nI_ad1, nI_ad2, nI_ad3, x1, x2, x3, rx, h1', h4, h2', Option.bind_some, bn2_s, zz_0, zz_1, if_true, if_false, ite_true, ite_false, vI_i, vR_n, vR_r, vR_v, reduceCtorEq]
        exact hS
      by_cases e6 : v = 6
      · obtain ⟨r, S1, S2, h1, h2, h4, h3⟩ := same3 (f := fun S => fX9_state fu S c (xs (3 + 4 * t + 1))) (g := fun S => fX10_state fu S (c + 6) (xs (3 + 4 * t + 1))) (op_state (fu := fu) hI (xs (3 + 4 * t + 1)))
        have h1' : fX9_state fu (mkS T F nx) c (xs (3 + 4 * t + 1)) = some (r, S1) := h1
        have h2' : fX10_state fu S1 (c + 6) (xs (3 + 4 * t + 1)) = some (r, S2) := h2
        obtain ⟨S', hS⟩ := key S2 h3
        refine ⟨S', ?_⟩
        simp +decide only [fL_law_48, hq, if_false, x0, hv, e0, e1, e2, e3, e4, e5, e6, nI_ad1, nI_ad2, nI_ad3, x1, x2, x3, rx, h1', h4, h2', Option.bind_some, bn2_s, zz_0, zz_1, if_true, if_false, ite_true, ite_false, vI_i, vR_n, vR_r, vR_v, reduceCtorEq]
        exact hS
      by_cases e7 : v = 7
      · obtain ⟨r, S1, S2, h1, h2, h4, h3⟩ := same3 (f := fun S => fX9_get fu S c (xs (3 + 4 * t + 1)) (xs (3 + 4 * t + 2))) (g := fun S => fX10_get fu S (c + 6) (xs (3 + 4 * t + 1)) (xs (3 + 4 * t + 2))) (op_get (fu := fu) hI (xs (3 + 4 * t + 1)) (xs (3 + 4 * t + 2)))
        have h1' : fX9_get fu (mkS T F nx) c (xs (3 + 4 * t + 1)) (xs (3 + 4 * t + 2)) = some (r, S1) := h1
        have h2' : fX10_get fu S1 (c + 6) (xs (3 + 4 * t + 1)) (xs (3 + 4 * t + 2)) = some (r, S2) := h2
        obtain ⟨S', hS⟩ := key S2 h3
        refine ⟨S', ?_⟩
        simp +decide only [fL_law_48, hq, if_false, x0, hv, e0, e1, e2, e3, e4, e5, e6, e7, nI_ad1, nI_ad2, nI_ad3, x1, x2, x3, rx, h1', h4, h2', Option.bind_some, bn2_s, zz_0, zz_1, if_true, if_false, ite_true, ite_false, vI_i, vR_n, vR_r, vR_v, reduceCtorEq]
        exact hS
      by_cases e8 : v = 8
      · obtain ⟨r, S1, S2, h1', h2, h3⟩ := op_cancel (fu := fu) hI (by omega) (xs (3 + 4 * t + 1))
        have h4 : rcv S1 9 (some (c + 6)) = some (c + 6) := rcv_b (by unfold fX10_cancel at h2; exact h2)
        have h2' := h2
        obtain ⟨S', hS⟩ := key S2 (lift (a := 0) (by omega) h3)
        refine ⟨S', ?_⟩
        simp +decide only [fL_law_48, hq, if_false, x0, hv, e0, e1, e2, e3, e4, e5, e6, e7, e8, nI_ad1, nI_ad2, nI_ad3, x1, x2, x3, rx, h1', h4, h2', Option.bind_some, bn2_s, zz_0, zz_1, if_true, if_false, ite_true, ite_false, vI_i, vR_n, vR_r, vR_v, reduceCtorEq]
        exact hS
      by_cases e9 : v = 9
      · obtain ⟨r, S1, S2, h1', h2, h3⟩ := op_raise (fu := fu) hI (by omega) (by omega) (xs (3 + 4 * t + 1)) (xs (3 + 4 * t + 2))
        have h4 : rcv S1 9 (some (c + 6)) = some (c + 6) := rcv_b (by unfold fX10_raise at h2; exact h2)
        have h2' := h2
        obtain ⟨S', hS⟩ := key S2 (lift (a := 1) (by omega) h3)
        refine ⟨S', ?_⟩
        simp +decide only [fL_law_48, hq, if_false, x0, hv, e0, e1, e2, e3, e4, e5, e6, e7, e8, e9, nI_ad1, nI_ad2, nI_ad3, x1, x2, x3, rx, h1', h4, h2', Option.bind_some, bn2_s, zz_0, zz_1, if_true, if_false, ite_true, ite_false, vI_i, vR_n, vR_r, vR_v, reduceCtorEq]
        exact hS
      by_cases e10 : v = 10
      · obtain ⟨r, S1, S2, h1', h2, h3⟩ := op_close (fu := fu) hI hfu (xs (3 + 4 * t + 1))
        have h4 : rcv S1 9 (some (c + 6)) = some (c + 6) := rcv_b (by unfold fX10_close at h2; exact h2)
        have h2' := h2
        obtain ⟨S', hS⟩ := key S2 (lift (a := 0) (by omega) h3)
        refine ⟨S', ?_⟩
        simp +decide only [fL_law_48, hq, if_false, x0, hv, e0, e1, e2, e3, e4, e5, e6, e7, e8, e9, e10, nI_ad1, nI_ad2, nI_ad3, x1, x2, x3, rx, h1', h4, h2', Option.bind_some, bn2_s, zz_0, zz_1, if_true, if_false, ite_true, ite_false, vI_i, vR_n, vR_r, vR_v, reduceCtorEq]
        exact hS
      by_cases e11 : v = 11
      · obtain ⟨r, S1, S2, h1', h2, h3⟩ := op_pack (fu := fu) hI hfu
        have h4 : rcv S1 9 (some (c + 6)) = some (c + 6) := rcv_b (by unfold fX10_pack at h2; exact h2)
        have h2' := h2
        obtain ⟨S', hS⟩ := key S2 (lift (a := 0) (by omega) h3)
        refine ⟨S', ?_⟩
        simp +decide only [fL_law_48, hq, if_false, x0, hv, e0, e1, e2, e3, e4, e5, e6, e7, e8, e9, e10, e11, nI_ad1, nI_ad2, nI_ad3, x1, x2, x3, rx, h1', h4, h2', Option.bind_some, bn2_s, zz_0, zz_1, if_true, if_false, ite_true, ite_false, vI_i, vR_n, vR_r, vR_v, reduceCtorEq]
        exact hS
      by_cases e12 : v = 12
      · obtain ⟨r, S1, S2, h1, h2, h4, h3⟩ := same3 (f := fun S => fX9_word fu S c (xs (3 + 4 * t + 1))) (g := fun S => fX10_word fu S (c + 6) (xs (3 + 4 * t + 1))) (op_word (fu := fu) hI (xs (3 + 4 * t + 1)))
        have h1' : fX9_word fu (mkS T F nx) c (xs (3 + 4 * t + 1)) = some (r, S1) := h1
        have h2' : fX10_word fu S1 (c + 6) (xs (3 + 4 * t + 1)) = some (r, S2) := h2
        obtain ⟨S', hS⟩ := key S2 h3
        refine ⟨S', ?_⟩
        simp +decide only [fL_law_48, hq, if_false, x0, hv, e0, e1, e2, e3, e4, e5, e6, e7, e8, e9, e10, e11, e12, nI_ad1, nI_ad2, nI_ad3, x1, x2, x3, rx, h1', h4, h2', Option.bind_some, bn2_s, zz_0, zz_1, if_true, if_false, ite_true, ite_false, vI_i, vR_n, vR_r, vR_v, reduceCtorEq]
        exact hS
      by_cases e13 : v = 13
      · obtain ⟨r, S1, S2, h1, h2, h4, h3⟩ := same3 (f := fun S => fX9_job fu S c (xs (3 + 4 * t + 1)) (xs (3 + 4 * t + 2))) (g := fun S => fX10_job fu S (c + 6) (xs (3 + 4 * t + 1)) (xs (3 + 4 * t + 2))) (op_job (fu := fu) hI (by omega) (xs (3 + 4 * t + 1)) (xs (3 + 4 * t + 2)))
        have h1' : fX9_job fu (mkS T F nx) c (xs (3 + 4 * t + 1)) (xs (3 + 4 * t + 2)) = some (r, S1) := h1
        have h2' : fX10_job fu S1 (c + 6) (xs (3 + 4 * t + 1)) (xs (3 + 4 * t + 2)) = some (r, S2) := h2
        obtain ⟨S', hS⟩ := key S2 h3
        refine ⟨S', ?_⟩
        simp +decide only [fL_law_48, hq, if_false, x0, hv, e0, e1, e2, e3, e4, e5, e6, e7, e8, e9, e10, e11, e12, e13, nI_ad1, nI_ad2, nI_ad3, x1, x2, x3, rx, h1', h4, h2', Option.bind_some, bn2_s, zz_0, zz_1, if_true, if_false, ite_true, ite_false, vI_i, vR_n, vR_r, vR_v, reduceCtorEq]
        exact hS
      by_cases e14 : v = 14
      · obtain ⟨r, S1, S2, h1, h2, h4, h3⟩ := same3 (f := fun S => fX9_count fu S c (xs (3 + 4 * t + 1))) (g := fun S => fX10_count fu S (c + 6) (xs (3 + 4 * t + 1))) (op_count (fu := fu) hI hfu (xs (3 + 4 * t + 1)))
        have h1' : fX9_count fu (mkS T F nx) c (xs (3 + 4 * t + 1)) = some (r, S1) := h1
        have h2' : fX10_count fu S1 (c + 6) (xs (3 + 4 * t + 1)) = some (r, S2) := h2
        obtain ⟨S', hS⟩ := key S2 h3
        refine ⟨S', ?_⟩
        simp +decide only [fL_law_48, hq, if_false, x0, hv, e0, e1, e2, e3, e4, e5, e6, e7, e8, e9, e10, e11, e12, e13, e14, nI_ad1, nI_ad2, nI_ad3, x1, x2, x3, rx, h1', h4, h2', Option.bind_some, bn2_s, zz_0, zz_1, if_true, if_false, ite_true, ite_false, vI_i, vR_n, vR_r, vR_v, reduceCtorEq]
        exact hS
      obtain ⟨S', hS⟩ := key _ self
      refine ⟨S', ?_⟩
      simp +decide only [fL_law_48, hq, if_false, x0, hv, e0, e1, e2, e3, e4, e5, e6, e7, e8, e9, e10, e11, e12, e13, e14, Option.bind_some, bn2_s, zz_0, zz_1, if_true, if_false, ite_true, ite_false, vI_i, vR_n, vR_r, vR_v, reduceCtorEq]
      exact hS
theorem cl_at (xs : Nat → Int32) (L k : Nat) (hL : L ≤ 2051) (hk : k ≤ 2) : ∃ v, cl xs L (nI k) = some v := by
  unfold cl
  by_cases c1 : Int32.ofNat L ≤ nI k
  · exact ⟨0, if_pos c1⟩
  · have c2 : k < L := by
      by_cases h : k < L
      · exact h
      · exact absurd (nI_le (a := L) (b := k) (by omega) (by omega)) c1
    exact ⟨xs k, by rw [if_neg c1]; exact sx_at c2 hL⟩
/-- for every script of at most 2051 ints the law's function answers 1 -/
theorem law_ok (xs : Nat → Int32) (L : Nat) (hL : L ≤ 2051) (sz : Nat) : ∃ (fu : Nat) (S' : hS), fL_law xs L fu (fun _ => none, sz) = some (1, S') := by
  obtain ⟨v0, c0⟩ := cl_at xs L 0 hL (by omega)
  obtain ⟨v1, c1⟩ := cl_at xs L 1 hL (by omega)
  obtain ⟨v2, c2⟩ := cl_at xs L 2 hL (by omega)
  obtain ⟨nW, w1, w2, w3⟩ := near (lo := 8) (hi := 3000) (by omega) (by omega) v0
  obtain ⟨nJ, j1, j2, j3⟩ := near (lo := 1) (hi := 24) (by omega) (by omega) v1
  obtain ⟨qu, q1, q2, q3⟩ := near (lo := 1) (hi := 200) (by omega) (by omega) v2
  obtain ⟨fs, a1, a2, a3, a4, a5, a6, a7, a8⟩ := x_new (fu := 5000) (c := sz) (x1 := v0) (x2 := v1) (x3 := v2) w3 j3 q3 w2 j2
  obtain ⟨F', b1, b2, b3⟩ := m_new (fu := 5000) (T := tE (fun _ => none) sz [(8, 6), (0, 2), (10, nW), (1, 3), (12, nJ), (7, 1)]) (F := fE (fun _ _ => .null) sz fs) (z := sz + 6) (x1 := v0) (x2 := v1) (x3 := v2) (fun q hq => by
    obtain ⟨j, rfl⟩ : ∃ j, q = sz + j := ⟨q - sz, by omega⟩
    rw [tE_at]
    exact List.getElem?_eq_none (by show 6 ≤ j; omega)) w3 j3 q3 w2
  have hI := inv0 (c := sz) w1 w2 j1 j2 q2 a3 a4 a5 a6 a7 a8 b2 b3
  obtain ⟨S', hS⟩ := law_loop (fu := 5000) (c := sz) (nW := nW) (nJ := nJ) (xs := xs) hL (by omega) 5000 0 _ (by omega) (by omega) (OUT.same hI (Nat.zero_le _))
  refine ⟨5000, S', ?_⟩
  have c0' : cl xs L (0 : Int32) = some v0 := c0
  have c1' : cl xs L (1 : Int32) = some v1 := c1
  have c2' : cl xs L (2 : Int32) = some v2 := c2
  have z1 : (wE (fun _ => none) (fun _ _ => .null) sz 6 [(8, 6), (0, 2), (10, nW), (1, 3), (12, nJ), (7, 1)] fs).2 = sz + 6 := rfl
  simp only [fL_law, c0', c1', c2', a1, z1, b1, Option.bind_some, bn2_s, zz_0, zz_1, if_true, if_false, ite_true, ite_false, vI_i, vR_n, vR_r, vR_v, reduceCtorEq]
  exact hS
end LW
