theorem hWs_tbl {w : Cond} (h : w ∈ hWs) : w ∈ lw_tbl := (List.mem_filter.mp h).1
theorem hN_of {s : State} {A : Array Value} (hts : ∀ w ∈ lw_tbl, w.before A s = true) : hN s := by
  intro w hw ho
  have h := hts w hw
  unfold hOdd at ho
  split at ho
  · exact va_Nw.of rfl h
  · exact va_Nw.of rfl h
  · exact va_Nw.of rfl h
  · exact va_AO.of h
  · cases ho
set_option maxHeartbeats 4000000 in
set_option maxRecDepth 100000 in
/-- THE LAW, from its entry, out of what its function answers -/
theorem whole_of {p : Program} {e : Env} {s : State} {m : MethodId} {below : List Frame} {meth : Method} {c : Code} (l : Launch) {b L : Nat} {xs : Nat → Int32} (hL : L ≤ 2051) (C0 : lw_At p s m meth c b L xs) {fu : Nat} {S' : hS} (hf : fL_law xs L fu (fun _ => none, s.heap.size) = some (1, S')) : W p l e room_1 s m #[Value.ref b] below meth c s.heap [] 0 0 (lw_Z below #[Value.ref b] s) (entryFrame m ([Value.ref b] : List Value).toArray 4) := by
  obtain ⟨hx, hb, hr, hml, hown, hts, hX, hbl, hlocks, hgv⟩ := id C0
  have hts1 : ∀ w ∈ hWs, w.before #[Value.ref b] s = true := fun w hw => hts w (hWs_tbl hw)
  obtain ⟨c0, i0, k0⟩ := u_known (C := RX0) (T := TX0) (N := 2) (n := 2) hts1 uwX0 (hts (.instantiable RX0 2) (by decide +kernel))
  obtain ⟨c1, i1, k1⟩ := u_known (C := RX1) (T := TX1) (N := 3) (n := 3) hts1 uwX1 (hts (.instantiable RX1 3) (by decide +kernel))
  obtain ⟨c2, i2, k2⟩ := u_known (C := RX2) (T := TX2) (N := 7) (n := 7) hts1 uwX2 (hts (.instantiable RX2 7) (by decide +kernel))
  obtain ⟨c3, i3, k3⟩ := u_known (C := RX3) (T := TX3) (N := 9) (n := 9) hts1 uwX3 (hts (.instantiable RX3 9) (by decide +kernel))
  obtain ⟨c4, i4, k4⟩ := u_known (C := RX4) (T := TX4) (N := 11) (n := 11) hts1 uwX4 (hts (.instantiable RX4 11) (by decide +kernel))
  obtain ⟨c5, i5, k5⟩ := u_known (C := RX5) (T := TX5) (N := 12) (n := 12) hts1 uwX5 (hts (.instantiable RX5 12) (by decide +kernel))
  obtain ⟨c6, i6, k6⟩ := u_known (C := RX6) (T := TX6) (N := 10) (n := 10) hts1 uwX6 (hts (.instantiable RX6 10) (by decide +kernel))
  obtain ⟨c7, i7, k7⟩ := u_known (C := RX7) (T := TX7) (N := 1) (n := 1) hts1 uwX7 (hts (.instantiable RX7 1) (by decide +kernel))
  obtain ⟨c8, i8, k8⟩ := u_known (C := RX9) (T := TX9) (N := 6) (n := 6) hts1 uwX9 (hts (.instantiable RX9 6) (by decide +kernel))
  obtain ⟨c9, i9, k9⟩ := u_known (C := RX10) (T := TX10) (N := 32) (n := 32) hts1 uwX10 (hts (.instantiable RX10 32) (by decide +kernel))
  obtain ⟨dC, dI, hKc⟩ : ∃ (dC : Nat → ClassId) (dI : Nat → Nat → Nat), ∀ (k : Nat) (q : vw_C), vwCl[k]? = some q → u_Kn s q.1 q.2.1 q.2.2 (dC k) (dI k) := by
    refine ⟨fun k => match k with | 0 => c0 | 1 => c1 | 2 => c2 | 3 => c3 | 4 => c4 | 5 => c5 | 6 => c6 | 7 => c7 | 8 => c8 | _ => c9, fun k => match k with | 0 => i0 | 1 => i1 | 2 => i2 | 3 => i3 | 4 => i4 | 5 => i5 | 6 => i6 | 7 => i7 | 8 => i8 | _ => i9, ?_⟩
    intro k q hq
    match k, hq with
    | 0, hq => cases hq; exact k0
    | 1, hq => cases hq; exact k1
    | 2, hq => cases hq; exact k2
    | 3, hq => cases hq; exact k3
    | 4, hq => cases hq; exact k4
    | 5, hq => cases hq; exact k5
    | 6, hq => cases hq; exact k6
    | 7, hq => cases hq; exact k7
    | 8, hq => cases hq; exact k8
    | 9, hq => cases hq; exact k9
    | k + 10, hq => simp [vwCl] at hq
  obtain ⟨cI, kI, compI, fI, gI1, hI⟩ := Cond.arrayClass_spec (hts (.arrayClass .int) (by decide +kernel))
  obtain ⟨cZ, kZ, compZ, fZ, gZ1, hZ⟩ := Cond.arrayClass_spec (hts (.arrayClass .boolean) (by decide +kernel))
  obtain ⟨compJ, cJ, kJ, hcompJ, hidxJ, hkJ, hkindJ, hnameJ⟩ := Cond.arrayOver_spec (hts (.arrayOver (.object RX4)) (by decide +kernel))
  have hN1 : hN s := hN_of hts
  have hK : h_K ((dC, dI), cI, cZ, cJ) s := by
    refine ⟨⟨hKc, fun k q hq => ?_⟩, hN1⟩
    match k, hq with
    | 0, hq => cases hq; exact ⟨fun n z => ⟨fun k h => (by cases h), kI, gI1, compI, hI⟩, fI⟩
    | 1, hq => cases hq; exact ⟨fun n z => ⟨fun k h => (by cases h), kZ, gZ1, compZ, hZ⟩, fZ⟩
    | 2, hq => cases hq; exact ⟨fun n z => ⟨fun k h => (by cases h), kJ, hkJ, compJ, hkindJ⟩, kJ, compJ, hkJ, hkindJ, hcompJ, hnameJ⟩
    | k + 3, hq => simp [h_tys] at hq
  have hFx : hFix p m c cL_law 4 s #[Value.ref b] RL := ⟨yX0_read, cX0_read, 2, some .int, hx, hb, hml, hown, fun w hw => by
    rcases List.mem_cons.mp hw with rfl | hw
    · exact hts1 _ wd550
    · exact hts1 w hw⟩
  have C : hCx p m c cL_law 4 s #[Value.ref b] RL meth (some .boolean) ((dC, dI), cI, cZ, cJ) := ⟨hFx, hx, hb, hml, hown, hr, hlocks, hK, hts1⟩
  rw [lg_entry_eq]
  have hl : hl_has ((lg_sl [.ref b] ++ List.replicate (4 - (lg_sl [.ref b]).length) Slot.unset).toArray) 4 [(0, .inr (some b))] := hE_entry [.inr (some b)] (n := 4) (Nat.le_of_ble_eq_true rfl)
  exact kL_law_0 (S0 := (fun _ => none, s.heap.size)) (z := (1, S')) C rfl hX hbl rfl hL fu _ _ _ _ hf (h_V.entry ⟨rfl, fun a c h => by cases h⟩) hl
