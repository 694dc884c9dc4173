theorem gI_inv {S : hS} {k f : Nat} {r : Option Nat} {x : Int32} (h : gI S k f r = some x) : ∃ (a n : Nat) (V : Nat → Value), r = some a ∧ S.1 a = some (k, n, V) ∧ V f = .int x := by
  obtain ⟨⟨a, n, V⟩, h1, h2⟩ := hbind h
  obtain ⟨e1, e2⟩ := hc_inv h1
  exact ⟨a, n, V, e1, e2, vI_inv h2⟩
theorem gR_inv {S : hS} {k f : Nat} {r x : Option Nat} (h : gR S k f r = some x) : ∃ (a n : Nat) (V : Nat → Value), r = some a ∧ S.1 a = some (k, n, V) ∧ V f = va_rf x := by
  obtain ⟨⟨a, n, V⟩, h1, h2⟩ := hbind h
  obtain ⟨e1, e2⟩ := hc_inv h1
  exact ⟨a, n, V, e1, e2, vR_inv h2⟩
theorem pV_inv {S S1 : hS} {k f : Nat} {r : Option Nat} {v : Value} (h : pV S k f r v = some S1) : ∃ (a n : Nat) (V : Nat → Value), r = some a ∧ S.1 a = some (k, n, V) ∧ S1 = hset S a (k, n, updV V f v) := by
  obtain ⟨⟨a, n, V⟩, h1, h2⟩ := hbind h
  obtain ⟨e1, e2⟩ := hc_inv h1
  exact ⟨a, n, V, e1, e2, (Option.some.inj h2).symm⟩
theorem rcv_inv {S : hS} {k : Nat} {r : Option Nat} {b : Nat} (h : rcv S k r = some b) : ∃ (n : Nat) (V : Nat → Value), r = some b ∧ S.1 b = some (k, n, V) := by
  obtain ⟨⟨a, n, V⟩, h1, h2⟩ := hbind h
  obtain ⟨e1, e2⟩ := hc_inv h1
  cases h2
  exact ⟨n, V, e1, e2⟩
theorem hk4_inv {S : hS} {r : Option Nat} {k : Nat} (h : hk4 S r = k) (hk : k = 2 ∨ k = 3 ∨ k = 5 ∨ k = 6) : ∃ (b n : Nat) (V : Nat → Value), r = some b ∧ S.1 b = some (k, n, V) := by
  unfold hk4 at h
  cases r with
  | none => simp only at h; omega
  | some b =>
    simp only at h
    cases hb : S.1 b with
    | none => rw [hb] at h; simp only at h; omega
    | some c =>
      rw [hb] at h
      simp only at h
      split at h
      · obtain ⟨c1, n, V⟩ := c
        simp only at h
        subst h
        exact ⟨b, n, V, rfl, hb⟩
      · omega
theorem zz_inv {x y : Int32} (h : zz x = some y) : y = x ∧ (x = 0 ∨ x = 1) := by
  unfold zz at h
  split at h
  · rename_i c
    exact ⟨(Option.some.inj h).symm, c⟩
  · cases h
theorem zz_nar {x : Int32} (h : x = 0 ∨ x = 1) : narrow .boolean (.int x) = .int x := by
  rcases h with rfl | rfl <;> decide
theorem zz_fit {x : Int32} (h : x = 0 ∨ x = 1) : fits .boolean (.int x) = true := by
  rcases h with rfl | rfl <;> decide
/-- what a field's link says: its class, its slot -/
def h_fld (s : State) (args : Array Value) (own : String) (index ci k : Nat) (D : hD) : Prop := ∃ (r : vw_C) (ref name desc : String) (cf : Nat) (kf : Class) (fi : Nat) (f : Field), vwCl[ci]? = some r ∧ k < r.2.2 ∧ ((Cond.fieldLink own index ref name desc).before args s = true ∨ ∃ host, (Cond.fieldLinkNest own index ref name desc host).before args s = true) ∧ s.fieldFound? ref name desc = some (cf, kf, fi, f) ∧ f.isStatic = false ∧ f.slot = D.1.2 ci k
def h_fpt (s : State) (args : Array Value) (m : MethodId) (meth : Method) (own : String) (index ci k : Nat) (ty : FieldType) (D : hD) : Prop := ∃ (r : vw_C) (ref name desc : String) (cf : Nat) (kf : Class) (fi : Nat) (f : Field), vwCl[ci]? = some r ∧ k < r.2.2 ∧ ((Cond.fieldLink own index ref name desc).before args s = true ∨ ∃ host, (Cond.fieldLinkNest own index ref name desc host).before args s = true) ∧ s.fieldFound? ref name desc = some (cf, kf, fi, f) ∧ f.isStatic = false ∧ f.slot = D.1.2 ci k ∧ (hasFlag f.accessFlags Acc.final = false ∨ (m.cls = cf ∧ meth.name = "<init>")) ∧ (∀ v, narrow ty v = v → fits ty v = true → narrow f.type v = v ∧ s.fitsSlot (D.1.1 ci) .none f.slot v = true) ∧ (∀ x y, x < r.2.2 → y < r.2.2 → x ≠ y → D.1.2 ci x ≠ D.1.2 ci y)
theorem h_fld_of {s : State} {args : Array Value} {own ref C : String} {T : u_T} {N index ci : Nat} {D : hD} (hts : ∀ w ∈ hWs, w.before args s = true) (hK : h_K D s) (hc : vwCl[ci]? = some (C, T, N)) (hin : ∀ w ∈ u_ws C T N, w ∈ hWs) (k : Nat) (hk : k < N)
    (hlink : (Cond.fieldLink own index ref (T k).2.1 (T k).2.2.1).before args s = true ∨ ∃ host, (Cond.fieldLinkNest own index ref (T k).2.1 (T k).2.2.1 host).before args s = true) (hsame : ∀ x, s.fieldFound? (T k).1 (T k).2.1 (T k).2.2.1 = some x → s.fieldFound? ref (T k).2.1 (T k).2.2.1 = some x) : h_fld s args own index ci k D := by
  obtain ⟨hS, hfc, kC, hkC, hkind⟩ := hK.1.1 ci _ hc
  obtain ⟨cf, kf, fi, f, hi, hsl⟩ := hS k hk
  exact ⟨_, ref, _, _, cf, kf, fi, f, hc, hk, hlink, hsame _ hi, (u_facts hfc hkC (u_lays hts hin hk) hi).1, hsl⟩
theorem h_fpt_of {s : State} {args : Array Value} {m : MethodId} {meth : Method} {own ref C : String} {T : u_T} {N index ci : Nat} {D : hD} {ty0 : Nat → FieldType} (hts : ∀ w ∈ hWs, w.before args s = true) (hK : h_K D s) (hc : vwCl[ci]? = some (C, T, N)) (hin : ∀ w ∈ u_ws C T N, w ∈ hWs) (hty : ∀ k, k < N → parseFieldDescriptor (T k).2.2.1 = some (ty0 k)) (hnm : ∀ a, a < N → ∀ b, b < N → a ≠ b → (T a).2.1 ≠ (T b).2.1) (k : Nat) (hk : k < N)
    (hlink : (Cond.fieldLink own index ref (T k).2.1 (T k).2.2.1).before args s = true ∨ ∃ host, (Cond.fieldLinkNest own index ref (T k).2.1 (T k).2.2.1 host).before args s = true) (hsame : ∀ x, s.fieldFound? (T k).1 (T k).2.1 (T k).2.2.1 = some x → s.fieldFound? ref (T k).2.1 (T k).2.2.1 = some x) (hfin : (T k).2.2.2 = false) : h_fpt s args m meth own index ci k (ty0 k) D := by
  have hap := va_apart (own := own) hts hin ty0 hty hnm hK.1 hc
  obtain ⟨hS, hfc, kC, hkC, hkind⟩ := hK.1.1 ci _ hc
  obtain ⟨cf, kf, fi, f, hi, hsl⟩ := hS k hk
  have hlay := hts _ (hin _ (u_in_lay hk))
  unfold u_lay at hlay
  rw [if_neg (by rw [hfin]; decide)] at hlay
  obtain ⟨c', k', cf', kf', fi', fd', r1, r2, hi', hst, hfin', -⟩ := Cond.lays_spec hlay
  cases hi.symm.trans hi'
  exact ⟨_, ref, _, _, cf, kf, fi, f, hc, hk, hlink, hsame _ hi, (u_facts hfc hkC (u_lays hts hin hk) hi).1, hsl, Or.inl hfin', fun v h1 h2 => u_fits hfc hkC hkind (Or.inl hlay) hi (hty k hk) h1 h2, hap⟩
theorem h_fptF_of {s : State} {args : Array Value} {m : MethodId} {meth : Method} {own ref C : String} {T : u_T} {N index ci : Nat} {D : hD} {ty0 : Nat → FieldType} (hts : ∀ w ∈ hWs, w.before args s = true) (hK : h_K D s) (hown : s.vm.findClass own = some m.cls) (hin2 : meth.name = "<init>") (hc : vwCl[ci]? = some (C, T, N)) (hin : ∀ w ∈ u_ws C T N, w ∈ hWs) (hty : ∀ k, k < N → parseFieldDescriptor (T k).2.2.1 = some (ty0 k)) (hnm : ∀ a, a < N → ∀ b, b < N → a ≠ b → (T a).2.1 ≠ (T b).2.1) (k : Nat) (hk : k < N)
    (hlink : (Cond.fieldLink own index ref (T k).2.1 (T k).2.2.1).before args s = true ∨ ∃ host, (Cond.fieldLinkNest own index ref (T k).2.1 (T k).2.2.1 host).before args s = true) (hsame : ∀ x, s.fieldFound? (T k).1 (T k).2.1 (T k).2.2.1 = some x → s.fieldFound? ref (T k).2.1 (T k).2.2.1 = some x) (hfin : (T k).2.2.2 = true) (hdecl : (T k).1 = own) : h_fpt s args m meth own index ci k (ty0 k) D := by
  have hap := va_apart (own := own) hts hin ty0 hty hnm hK.1 hc
  obtain ⟨hS, hfc, kC, hkC, hkind⟩ := hK.1.1 ci _ hc
  obtain ⟨cf, kf, fi, f, hi, hsl⟩ := hS k hk
  have hlay := hts _ (hin _ (u_in_lay hk))
  unfold u_lay at hlay
  rw [if_pos hfin] at hlay
  have hcf : m.cls = cf := by
    obtain ⟨_, _, c', _, _, _, -, -, hf', -, -, -, hown2, -⟩ := Cond.laysFinal_spec hlay
    have e1 : c' = cf := by have := hi.symm.trans hf'; simp at this; exact this.1.symm
    rw [hdecl] at hown2
    rw [← e1]; exact Option.some.inj (hown.symm.trans hown2)
  exact ⟨_, ref, _, _, cf, kf, fi, f, hc, hk, hlink, hsame _ hi, (u_facts hfc hkC (u_lays hts hin hk) hi).1, hsl, Or.inr ⟨hcf, hin2⟩, fun v h1 h2 => u_fits hfc hkC hkind (Or.inr hlay) hi (hty k hk) h1 h2, hap⟩
def h_Pc (D : hD) (av : List Value) (S : hS) : Array Value → State → Prop := va_Pc av (fun U => h_P D S U.heap ∧ h_K D U)
def h_Q (D : hD) (A : Nat → Prop) (rv : Option Value) (S1 : hS) : Array Value → State → Outcome → State → Prop := fun _ st oc t => oc = .returned rv ∧ h_P D S1 t.heap ∧ (∀ q, S1.1 q ≠ none → A q) ∧ va_F A st t
theorem h_Pc.blind {D : hD} {av : List Value} {S : hS} : FrameBlind (h_Pc D av S) := fun _ _ _ _ q => ⟨q.1, q.2.1, q.2.2.call⟩
theorem h_V.entry {D : hD} {s : State} {S : hS} (hP : h_P D S s.heap) : h_V D (h_A S) s S s.heap [] := ⟨hP, fun _ h => Or.inl h, va_S.rf, fun q h => Or.inr (by rw [← hP.1]; exact h)⟩
section HROWS
variable {p : Program} {l : Launch} {e : Env} {R : Room} {s : State} {m : MethodId} {args : Array Value} {below : List Frame} {meth : Method} {c : Code} {H : Heap} {locs : List Loc} {cells slots : Nat} {Q : State → Prop}
variable {cc : ByteArray} {pc : Nat} {ls : Array Slot} {rest : List Value} {D : hD} {A : Nat → Prop} {S : hS}
theorem h_get (hx : p.tables.exec = Jvm.exec) (hb : c.code = cc) {own : String} {index ci k a n : Nat} {V : Nat → Value} (hown : s.vm.findClass own = some m.cls) (hf : h_fld s args own index ci k D) (hV : h_V D A s S H locs) (ha : S.1 a = some (ci, n, V)) (hdg : decode cc pc = .ok (.getfield index, 3))
    (kk : W p l e R s m args below meth c H locs cells slots Q (F0 m (pc + 3) ls (V k :: rest))) : W p l e R s m args below meth c H locs cells slots Q (F0 m pc ls (.ref a :: rest)) := by
  obtain ⟨r, ref, name, desc, cf, kf, fi, f, h1, h2, h3, h4, h5, h6⟩ := hf
  obtain ⟨cell, q1, q2, q3, q4⟩ := (hV.1.2 a _ ha).obj h1
  have hslot : cell.slots[f.slot]? = some (V k) := by rw [h6]; exact q4 k h2
  rcases h3 with h3 | ⟨host, h3⟩
  · exact W.getf hx hb hown h3 h4 h5 q1 (by rw [q3]; exact fun h => by cases h) hslot rfl rfl hdg kk
  · exact va_Wgetf hx hb hown h3 h4 h5 q1 (by rw [q3]; exact fun h => by cases h) hslot rfl rfl hdg kk
theorem h_gI (hx : p.tables.exec = Jvm.exec) (hb : c.code = cc) {own : String} {index ci k : Nat} {r : Option Nat} {x : Int32} (hown : s.vm.findClass own = some m.cls) (hV : h_V D A s S H locs) (hg : gI S ci k r = some x) (hf : h_fld s args own index ci k D) (hdg : decode cc pc = .ok (.getfield index, 3))
    (kk : W p l e R s m args below meth c H locs cells slots Q (F0 m (pc + 3) ls (.int x :: rest))) : W p l e R s m args below meth c H locs cells slots Q (F0 m pc ls (va_rf r :: rest)) := by
  obtain ⟨a, n, V, rfl, h2, h3⟩ := gI_inv hg
  refine h_get hx hb hown hf hV h2 hdg ?_
  rw [h3]; exact kk
theorem h_gR (hx : p.tables.exec = Jvm.exec) (hb : c.code = cc) {own : String} {index ci k : Nat} {r x : Option Nat} (hown : s.vm.findClass own = some m.cls) (hV : h_V D A s S H locs) (hg : gR S ci k r = some x) (hf : h_fld s args own index ci k D) (hdg : decode cc pc = .ok (.getfield index, 3))
    (kk : W p l e R s m args below meth c H locs cells slots Q (F0 m (pc + 3) ls (va_rf x :: rest))) : W p l e R s m args below meth c H locs cells slots Q (F0 m pc ls (va_rf r :: rest)) := by
  obtain ⟨a, n, V, rfl, h2, h3⟩ := gR_inv hg
  refine h_get hx hb hown hf hV h2 hdg ?_
  rw [h3]; exact kk
theorem h_put (hx : p.tables.exec = Jvm.exec) (hb : c.code = cc) {own : String} {index ci k : Nat} {r : Option Nat} {v : Value} {S1 : hS} {ty : FieldType} (hown : s.vm.findClass own = some m.cls) (hV : h_V D A s S H locs) (hg : pV S ci k r v = some S1) (hf : h_fpt s args m meth own index ci k ty D) (hn : narrow ty v = v) (hfit : fits ty v = true) (hdg : decode cc pc = .ok (.putfield index, 3))
    (kk : ∀ (H1 : Heap) (locs1 : List Loc), h_V D A s S1 H1 locs1 → W p l e R s m args below meth c H1 locs1 cells slots Q (F0 m (pc + 3) ls rest)) : W p l e R s m args below meth c H locs cells slots Q (F0 m pc ls (v :: va_rf r :: rest)) := by
  obtain ⟨a, n, V, rfl, h2, rfl⟩ := pV_inv hg
  obtain ⟨rr, ref, name, desc, cf, kf, fi, f, g1, g2, g3, g4, g5, g6, g7, g8, g9⟩ := hf
  obtain ⟨cell, q1, q2, q3, q4⟩ := (hV.1.2 a _ h2).obj g1
  have hlt : f.slot < cell.slots.size := by rw [g6]; exact k2_hasslot (q4 k g2)
  have hz := g8 v hn hfit
  have hal : a < H.size := (Array.getElem?_eq_some_iff.mp q1).1
  have key : ∀ H' : Heap, H'[a]? = some (cell.setSlot f.slot v) → H'.size = H.size → (∀ q, q ≠ a → H'[q]? = H[q]?) → W p l e R s m args below meth c H' (locs ++ [⟨a, f.slot⟩]) cells slots Q (F0 m (pc + 3) ls rest) := by
    intro H' e1 e2 e3
    rw [g6] at e1
    exact kk H' _ (hV.set h2 (Or.inl ⟨rr, g1, ⟨_, e1, q2, q3, t_set q4 g9 g2 v⟩⟩) e2 e3)
  have k1 := key (H.setIfInBounds a (cell.setSlot f.slot v)) (by simp [Array.getElem?_setIfInBounds, hal]) (by simp) (fun q hq => by simp [Array.getElem?_setIfInBounds, Ne.symm hq])
  rcases g3 with g3 | ⟨host, g3⟩
  · exact W.putf hx hb hown g3 g4 g5 g7 q1 (by rw [q3]; exact fun h => by cases h) hlt hz.1 (by rw [q3, q2]; exact hz.2) rfl rfl hdg k1
  · exact va_Wputf hx hb hown g3 g4 g5 g7 q1 (by rw [q3]; exact fun h => by cases h) hlt hz.1 (by rw [q3, q2]; exact hz.2) rfl rfl hdg k1
theorem hr_aload_n (hx : p.tables.exec = Jvm.exec) (hb : c.code = cc) {k : Fin 4} {i : Nat} {r : Option Nat} (hdg : decode cc pc = .ok (.aload_n k, 1)) (hi : (k : Nat) = i) (hl : ls[i]? = some (.val (va_rf r)))
    (kk : W p l e R s m args below meth c H locs cells slots Q (F0 m (pc + 1) ls (va_rf r :: rest))) : W p l e R s m args below meth c H locs cells slots Q (F0 m pc ls rest) := by
  cases r with
  | none => exact lv_aload_nN hx hb hdg hi hl kk
  | some a => exact lv_aload_n hx hb hdg hi hl kk
theorem hr_aload (hx : p.tables.exec = Jvm.exec) (hb : c.code = cc) {i : Nat} {r : Option Nat} (hdg : decode cc pc = .ok (.aload i, 2)) (hl : ls[i]? = some (.val (va_rf r)))
    (kk : W p l e R s m args below meth c H locs cells slots Q (F0 m (pc + 2) ls (va_rf r :: rest))) : W p l e R s m args below meth c H locs cells slots Q (F0 m pc ls rest) := by
  cases r with
  | none => exact lv_aloadN hx hb hdg hl kk
  | some a => exact lv_aload hx hb hdg hl kk
theorem hr_astore_n (hx : p.tables.exec = Jvm.exec) (hb : c.code = cc) {k : Fin 4} {i nL : Nat} {r : Option Nat} {lv lv' : List (Nat × Value)} (hdg : decode cc pc = .ok (.astore_n k, 1)) (hi : (k : Nat) = i) (h : lv_has ls nL lv) (hn : i < nL) (hl : (i, va_rf r) :: lv.filter (fun q => !(q.1 == i) && !(q.1 + 1 == i && q.2.category == 2)) = lv')
    (kk : ∀ ls' : Array Slot, lv_has ls' nL lv' → W p l e R s m args below meth c H locs cells slots Q (F0 m (pc + 1) ls' rest)) : W p l e R s m args below meth c H locs cells slots Q (F0 m pc ls (va_rf r :: rest)) := by
  cases r with
  | none => exact lv_astore_nN hx hb hdg hi h hn hl kk
  | some a => exact lv_astore_n hx hb hdg hi h hn hl kk
theorem hr_astore (hx : p.tables.exec = Jvm.exec) (hb : c.code = cc) {i nL : Nat} {r : Option Nat} {lv lv' : List (Nat × Value)} (hdg : decode cc pc = .ok (.astore i, 2)) (h : lv_has ls nL lv) (hn : i < nL) (hl : (i, va_rf r) :: lv.filter (fun q => !(q.1 == i) && !(q.1 + 1 == i && q.2.category == 2)) = lv')
    (kk : ∀ ls' : Array Slot, lv_has ls' nL lv' → W p l e R s m args below meth c H locs cells slots Q (F0 m (pc + 2) ls' rest)) : W p l e R s m args below meth c H locs cells slots Q (F0 m pc ls (va_rf r :: rest)) := by
  cases r with
  | none => exact lv_astoreN hx hb hdg h hn hl kk
  | some a => exact lv_astore hx hb hdg h hn hl kk
theorem hr_ifnull (hx : p.tables.exec = Jvm.exec) (hb : c.code = cc) {r : Option Nat} {off : Int} {tgt : Nat} (hdg : decode cc pc = .ok (.ifnull off, 3)) (ht : (pc : Int) + off = (tgt : Int)) (kt : r = none → W p l e R s m args below meth c H locs cells slots Q (F0 m tgt ls rest)) (kf : ¬ r = none → W p l e R s m args below meth c H locs cells slots Q (F0 m (pc + 3) ls rest)) : W p l e R s m args below meth c H locs cells slots Q (F0 m pc ls (va_rf r :: rest)) := by
  cases r with
  | none => exact lv_ifnullN hx hb hdg ht (kt rfl)
  | some a => exact lv_ifnull hx hb hdg (kf (fun h => by cases h))
theorem hr_ifnonnull (hx : p.tables.exec = Jvm.exec) (hb : c.code = cc) {r : Option Nat} {off : Int} {tgt : Nat} (hdg : decode cc pc = .ok (.ifnonnull off, 3)) (ht : (pc : Int) + off = (tgt : Int)) (kt : ¬ r = none → W p l e R s m args below meth c H locs cells slots Q (F0 m tgt ls rest)) (kf : r = none → W p l e R s m args below meth c H locs cells slots Q (F0 m (pc + 3) ls rest)) : W p l e R s m args below meth c H locs cells slots Q (F0 m pc ls (va_rf r :: rest)) := by
  cases r with
  | none => exact lv_ifnonnullN hx hb hdg (kf rfl)
  | some a => exact lv_ifnonnull hx hb hdg ht (kt (fun h => by cases h))
theorem hr_dup (hx : p.tables.exec = Jvm.exec) (hb : c.code = cc) {r : Option Nat} (hdg : decode cc pc = .ok (.dup, 1)) (k : W p l e R s m args below meth c H locs cells slots Q (F0 m (pc + 1) ls (va_rf r :: va_rf r :: rest))) : W p l e R s m args below meth c H locs cells slots Q (F0 m pc ls (va_rf r :: rest)) := by
  cases r <;> exact lv_dup hx hb hdg rfl k
theorem hr_dup2 (hx : p.tables.exec = Jvm.exec) (hb : c.code = cc) {r : Option Nat} {x : Int32} (hdg : decode cc pc = .ok (.dup2, 1)) (k : W p l e R s m args below meth c H locs cells slots Q (F0 m (pc + 1) ls (.int x :: va_rf r :: .int x :: va_rf r :: rest))) : W p l e R s m args below meth c H locs cells slots Q (F0 m pc ls (.int x :: va_rf r :: rest)) := by
  cases r <;> exact lv_dup2_11 hx hb hdg rfl rfl k
theorem h_iret {S0 : hS} {mc ms : Nat} {z : Int32 × hS} {v : Int32} (hx : p.tables.exec = Jvm.exec) (hb : c.code = cc) (hr : meth.sig.returnType = some .int) (hlk : meth.locks = false) (hV : h_V D (h_A S0) s S H locs) (h : some (v, S) = some z) (h1 : cells ≤ mc) (h2 : slots ≤ ms) (hdg : decode cc pc = .ok (.ireturn, 1)) : W p l e R s m args below meth c H locs cells slots (MQ below (h_Q D (h_A S0) (some (.int z.1)) z.2) args s mc ms (h_A S0)) (F0 m pc ls [.int v]) := by
  cases h
  exact W.widen h1 h2 (W.iret hx hb hr (fun t ht hW => ⟨rfl, by rw [ht]; exact hV.1, hV.2.1, hV.2.2.1.F ht⟩) hV.2.2.1.2.2 hdg hlk)
theorem h_zret {S0 : hS} {mc ms : Nat} {z : Int32 × hS} {v : Int32} (hx : p.tables.exec = Jvm.exec) (hb : c.code = cc) (hr : meth.sig.returnType = some .boolean) (hlk : meth.locks = false) (hV : h_V D (h_A S0) s S H locs) (h : (zz v).bind (fun v => some (v, S)) = some z) (h1 : cells ≤ mc) (h2 : slots ≤ ms) (hdg : decode cc pc = .ok (.ireturn, 1)) : W p l e R s m args below meth c H locs cells slots (MQ below (h_Q D (h_A S0) (some (.int z.1)) z.2) args s mc ms (h_A S0)) (F0 m pc ls [.int v]) := by
  obtain ⟨y, hy, h3⟩ := hbind h
  obtain ⟨e1, hz⟩ := zz_inv hy
  rw [e1] at h3
  cases h3
  exact W.widen h1 h2 (W.zret hx hb hr (zz_nar hz) (fun t ht hW => ⟨rfl, by rw [ht]; exact hV.1, hV.2.1, hV.2.2.1.F ht⟩) hV.2.2.1.2.2 hdg hlk)
theorem h_vret {S0 : hS} {mc ms : Nat} {z : Unit × hS} (hx : p.tables.exec = Jvm.exec) (hb : c.code = cc) (hr : meth.sig.returnType = none) (hlk : meth.locks = false) (hV : h_V D (h_A S0) s S H locs) (h : some ((), S) = some z) (h1 : cells ≤ mc) (h2 : slots ≤ ms) (hdg : decode cc pc = .ok (.return_, 1)) : W p l e R s m args below meth c H locs cells slots (MQ below (h_Q D (h_A S0) none z.2) args s mc ms (h_A S0)) (F0 m pc ls []) := by
  cases h
  exact W.widen h1 h2 (W.vret hx hb hr (fun t ht hW => ⟨rfl, by rw [ht]; exact hV.1, hV.2.1, hV.2.2.1.F ht⟩) hV.2.2.1.2.2 hdg hlk)
theorem h_aret {S0 : hS} {mc ms : Nat} {z : Option Nat × hS} {v : Option Nat} {n : String} (hx : p.tables.exec = Jvm.exec) (hb : c.code = cc) (hr : meth.sig.returnType = some (.object n)) (hlk : meth.locks = false) (hV : h_V D (h_A S0) s S H locs) (h : some (v, S) = some z) (h1 : cells ≤ mc) (h2 : slots ≤ ms) (hdg : decode cc pc = .ok (.areturn, 1)) : W p l e R s m args below meth c H locs cells slots (MQ below (h_Q D (h_A S0) (some (va_rf z.1)) z.2) args s mc ms (h_A S0)) (F0 m pc ls [va_rf v]) := by
  cases h
  exact W.widen h1 h2 (W.aret hx hb hr (Or.inl ⟨n, rfl⟩) (va_rf_or v) (fun t ht hW => ⟨rfl, by rw [ht]; exact hV.1, hV.2.1, hV.2.2.1.F ht⟩) hV.2.2.1.2.2 hdg hlk)
end HROWS
