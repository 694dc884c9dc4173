def sx (xs : Nat → Int32) (L : Nat) (i : Int32) : Option Int32 := if i < 0 ∨ L ≤ i.toNatClampNeg then none else some (xs i.toNatClampNeg)
def cl (xs : Nat → Int32) (L : Nat) (k : Int32) : Option Int32 := if Int32.ofNat L ≤ k then some 0 else sx xs L k
def hLw (x : Int32) (c sl : Nat) : Prop := ∃ j : Nat, x = nI j ∧ j ≤ 20000 ∧ c ≤ 60 + 3 * j ∧ sl ≤ 9000 + 17 * j
def hLv (x : Int32) (c sl : Nat) : Prop := ∃ j : Nat, x = nI j ∧ j ≤ 19990 ∧ c ≤ 63 + 3 * j ∧ sl ≤ 9017 + 17 * j
theorem hLw_next {x : Int32} {c sl : Nat} (h : hLv x c sl) : hLw (x + (4 : Int32)) c sl := by
  obtain ⟨j, rfl, h1, h2, h3⟩ := h
  exact ⟨j + 4, nI_add j 4, by omega, by omega, by omega⟩
theorem hLj {L j : Nat} (hL : L ≤ 2051) (hj : j ≤ 20000) (h : ¬ (Int32.ofNat L - (4 : Int32)) < nI j) : j ≤ 2047 := by
  have h1 : (Int32.ofNat L - (4 : Int32)).toInt = (L : Int) - 4 := pk_sub_toInt (a := L) (b := 4) (by omega) (by omega)
  have h2 : (nI j).toInt = (j : Int) := nI_toInt (by omega)
  have h3 := Int32.not_lt.mp h
  have h4 := Int32.le_iff_toInt_le.mp h3
  omega
theorem h_A0 {b n : Nat} (h : b < n) : ¬ h_A ((fun _ => none, n) : hS) b := by
  rintro (h1 | h1)
  · exact h1 rfl
  · exact absurd h1 (Nat.not_le.mpr h)
theorem sx_inv {xs : Nat → Int32} {L : Nat} {i v : Int32} (h : sx xs L i = some v) : vp_in i L ∧ v = xs i.toNatClampNeg := by
  unfold sx at h
  split at h
  · cases h
  · rename_i c
    exact ⟨c, (Option.some.inj h).symm⟩
section HLAW
variable {p : Program} {l : Launch} {e : Env} {R : Room} {s : State} {m : MethodId} {args : Array Value} {below : List Frame} {meth : Method} {c : Code} {H : Heap} {locs : List Loc} {cells slots : Nat} {Q : State → Prop}
variable {cc : ByteArray} {pc : Nat} {ls : Array Slot} {rest : List Value} {D : hD} {A : Nat → Prop} {S : hS} {b L : Nat} {xs : Nat → Int32}
theorem h_sld (hx : p.tables.exec = Jvm.exec) (hb : c.code = cc) (hX : va_X b L xs s s.heap) (hbl : b < s.heap.size) (hbA : ¬ A b) (hV : h_V D A s S H locs) {i v : Int32} (hg : sx xs L i = some v) (hdg : decode cc pc = .ok (.iaload, 1))
    (kk : W p l e R s m args below meth c H locs cells slots Q (F0 m (pc + 1) ls (.int v :: rest))) : W p l e R s m args below meth c H locs cells slots Q (F0 m pc ls (.int i :: va_rf (some b) :: rest)) := by
  obtain ⟨h1, rfl⟩ := sx_inv hg
  exact va_sld hx hb hX hbl hbA hV.2.2.1 h1 hdg kk
theorem h_slen (hx : p.tables.exec = Jvm.exec) (hb : c.code = cc) (hX : va_X b L xs s s.heap) (hbl : b < s.heap.size) (hbA : ¬ A b) (hV : h_V D A s S H locs) (hdg : decode cc pc = .ok (.arraylength, 1))
    (kk : W p l e R s m args below meth c H locs cells slots Q (F0 m (pc + 1) ls (.int (Int32.ofNat L) :: rest))) : W p l e R s m args below meth c H locs cells slots Q (F0 m pc ls (va_rf (some b) :: rest)) :=
  va_slen hx hb hX hbl hbA hV.2.2.1 hdg kk
def h_PcX (D : hD) (av : List Value) (S : hS) (b L : Nat) (xs : Nat → Int32) : Array Value → State → Prop := va_Pc av (fun U => (h_P D S U.heap ∧ h_K D U) ∧ va_X b L xs U U.heap ∧ ¬ h_A S b ∧ b < U.heap.size)
theorem h_preX {As : List Value} (hK : h_K D s) (hV : h_V D A s S H locs) (hX : va_X b L xs s s.heap) (hbl : b < s.heap.size) (hbA : ¬ A b) : PreS s H (h_PcX D As S b L xs) As := by
  refine ⟨fun _ U g mk q => ⟨q.1, ⟨q.2.1.1, q.2.1.2.call⟩, va_X.moved (U := U.calling g mk _) (Vm.Alike.refl U.vm) q.2.2.1, q.2.2.2⟩, fun U hU hW => ⟨rfl, ⟨by rw [hU]; exact hV.1, hK.warm hW⟩, ?_, fun z => hbA (hV.A b z), by rw [hU]; exact Nat.lt_of_lt_of_le hbl hV.2.2.1.1⟩⟩
  rw [hU]
  exact (va_X.moved hW.alike hX).kept (hV.2.2.1.2.1 b hbl hbA)
variable {y : MethodName} {bytes : ByteArray} {maxL n index fr lo mc ms nL : Nat} {ret : Option FieldType} {As : List Value} {S1 : hS} {rv : Option Value} {own : String} {Pc : Array Value → State → Prop}
theorem h_callSX (F : hFix p m c cc nL s args own) (hV : h_V D A s S H locs)
    (w1 : Cond.code y bytes maxL ret ∈ hWs) (w2 : Cond.methodLink own index y ∈ hWs) (w3 : Cond.static y ∈ hWs) (w5 : Cond.initialized y.cls ∈ hWs) (hd : hDesc y n) (hR : hRoom R fr maxL lo) (hn : As.length = n) (hsz : ls.size = nL) (hW : (rest.map fun v => v.category).sum ≤ 8) (hdg : decode cc pc = .ok (.invokestatic index, 3)) (hf : cells + mc ≤ R.cells ∧ slots + ms ≤ R.slots)
    {st0 st1 : List Value} (hs1 : rv.toList ++ rest = st1) (hst : st0 = As.reverse ++ rest) (hpre : PreS s H Pc As) (hMt : Met l y (hWy y bytes maxL ret) { frames := fr, cells := mc, slots := ms, locals := lo } Pc (h_Q D (h_A S) rv S1) mc ms (h_A S))
    (kk : ∀ (H1 : Heap) (locs1 : List Loc), h_V D A s S1 H1 locs1 → W p l e R s m args below meth c H1 locs1 (cells + mc) (slots + ms) Q (F0 m (pc + 3) ls st1)) : W p l e R s m args below meth c H locs cells slots Q (F0 m pc ls st0) := by
  subst hs1
  have hts := F.ts
  obtain ⟨y0, c0, n0, r0, Fx⟩ := F
  refine h_after hV (va_runS (As := As) (rest := rest) Fx hMt (n := n) ⟨⟨rfl, rfl, hR.1, hR.2, pay_in Fx.2.2.2.2 (hWy_good w1), List.mem_cons_self, hts _ w1, hts _ w5, ⟨hd.1, hd.2.1⟩, h_len hd.2.2, hts _ w2⟩, hts _ w3⟩ hpre rfl hn hsz hst (lv_room hW) hdg hf) kk
theorem h_lret {S0 : hS} {z : Int32 × hS} {v : Int32} (hx : p.tables.exec = Jvm.exec) (hb : c.code = code) (hr : meth.sig.returnType = some .boolean) (hlk : meth.locks = false) (hS0 : S0 = (fun _ => none, s.heap.size)) (hV : h_V D (h_A S0) s S H locs) (h : (zz v).bind (fun v => some (v, S)) = some z) (hz : z.1 = 1) (h1 : cells ≤ 702299) (h2 : slots ≤ 6995350) (hdg : decode code pc = .ok (.ireturn, 1)) : W p l e room_1 s m #[Value.ref b] below meth c H locs cells slots (lw_Z below #[Value.ref b] s) (F0 m pc ls [.int v]) := by
  obtain ⟨y, hy, h3⟩ := hbind h
  obtain ⟨e1, -⟩ := zz_inv hy
  have h4 := Option.some.inj h3
  have hv : v = 1 := by rw [← hz, ← h4, ← e1]
  subst hv
  refine va_forget (fun q hq => ?_) (W.widen h1 h2 (lw_ret hx hb hr hlk hdg))
  have hA := hV.2.2.1.2.2 q hq
  rw [hS0] at hA
  rcases hA with hA | hA
  · exact absurd rfl hA
  · exact hA
end HLAW
set_option maxHeartbeats 4000000 in
set_option maxRecDepth 100000 in
theorem mL_cell (l : Launch) (D : hD) (S : hS) (b L : Nat) (xs : Nat → Int32) (k v : Int32) (h : cl xs L k = some v) : Met l yL_cell (hWy yL_cell cL_cell 2 (some .int)) { frames := 0, cells := 0, slots := 0, locals := 0 } (h_PcX D [va_rf (some b), .int k] S b L xs) (h_Q D (h_A S) (some (.int v)) S) 0 0 (h_A S) := by
  refine Met.ofW (cc := cL_cell) (maxL := 2) (ret := some .int) (by decide) rfl ?_
  intro p e s m args below meth c s₁ B hml hv1
  obtain ⟨rfl, ⟨hP, hK⟩, hX, hbA, hbl⟩ := hv1
  have hx := B.exec
  have hb := B.bytes
  have hr := B.returns
  have hlk := B.notSynchronized
  have hV := h_V.entry hP
  rw [lg_entry_eq]
  have hl : hl_has ((lg_sl [va_rf (some b), .int k] ++ List.replicate (2 - (lg_sl [va_rf (some b), .int k]).length) Slot.unset).toArray) 2 [(0, .inr (some b)), (1, .inl k)] := hE_entry [.inr (some b), .inl k] (n := 2) (Nat.le_refl 2)
  generalize (lg_sl [va_rf (some b), .int k] ++ List.replicate (2 - (lg_sl [va_rf (some b), .int k]).length) Slot.unset).toArray = ls at hl ⊢
  unfold cl at h
  refine lv_iload_n hx hb dL_cell_0 rfl (hi_at hl 1 rfl) ?_
  refine hr_aload_n hx hb dL_cell_1 rfl (hr_at hl 0 rfl) ?_
  refine h_slen hx hb hX hbl hbA hV dL_cell_2 ?_
  refine lv_icmp_ge (tgt := 12) hx hb dL_cell_3 (by decide) (fun c1 => ?_) (fun c1 => ?_)
  · rw [if_pos c1] at h
    refine lv_iconst (v := 0) hx hb dL_cell_12 (by decide) ?_
    cases h
    exact h_iret (z := (0, S)) hx hb hr hlk hV rfl (Nat.le_refl 0) (Nat.le_refl 0) dL_cell_13
  · rw [if_neg c1] at h
    refine hr_aload_n hx hb dL_cell_6 rfl (hr_at hl 0 rfl) ?_
    refine lv_iload_n hx hb dL_cell_7 rfl (hi_at hl 1 rfl) ?_
    refine h_sld hx hb hX hbl hbA hV h dL_cell_8 ?_
    refine lv_goto (tgt := 13) hx hb dL_cell_9 (by decide) ?_
    exact h_iret (z := (v, S)) hx hb hr hlk hV rfl (Nat.le_refl 0) (Nat.le_refl 0) dL_cell_13
