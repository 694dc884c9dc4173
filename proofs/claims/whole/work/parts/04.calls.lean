section HARR
variable {p : Program} {l : Launch} {e : Env} {R : Room} {s : State} {m : MethodId} {args : Array Value} {below : List Frame} {meth : Method} {c : Code} {H : Heap} {locs : List Loc} {cells slots : Nat} {Q : State → Prop}
variable {cc : ByteArray} {pc : Nat} {ls : Array Slot} {rest : List Value} {D : hD} {A : Nat → Prop} {S : hS}
theorem aI_inv {S : hS} {k : Nat} {r : Option Nat} {i x : Int32} (h : aI S k r i = some x) : ∃ (a n : Nat) (V : Nat → Value), r = some a ∧ S.1 a = some (k, n, V) ∧ ¬ (i < 0 ∨ n ≤ i.toNatClampNeg) ∧ V i.toNatClampNeg = .int x := by
  obtain ⟨⟨a, n, V⟩, h1, h2⟩ := hbind h
  obtain ⟨e1, e2⟩ := hc_inv h1
  simp only at h2
  split at h2
  · cases h2
  · rename_i hin
    exact ⟨a, n, V, e1, e2, hin, vI_inv h2⟩
theorem aR_inv {S : hS} {r : Option Nat} {i : Int32} {x : Option Nat} (h : aR S r i = some x) : ∃ (a n : Nat) (V : Nat → Value), r = some a ∧ S.1 a = some (12, n, V) ∧ ¬ (i < 0 ∨ n ≤ i.toNatClampNeg) ∧ V i.toNatClampNeg = va_rf x := by
  obtain ⟨⟨a, n, V⟩, h1, h2⟩ := hbind h
  obtain ⟨e1, e2⟩ := hc_inv h1
  simp only at h2
  split at h2
  · cases h2
  · rename_i hin
    exact ⟨a, n, V, e1, e2, hin, vR_inv h2⟩
theorem aL_inv {S : hS} {k : Nat} {r : Option Nat} {x : Int32} (h : aL S k r = some x) : ∃ (a n : Nat) (V : Nat → Value), r = some a ∧ S.1 a = some (k, n, V) ∧ x = Int32.ofNat n := by
  obtain ⟨⟨a, n, V⟩, h1, h2⟩ := hbind h
  obtain ⟨e1, e2⟩ := hc_inv h1
  exact ⟨a, n, V, e1, e2, (Option.some.inj h2).symm⟩
theorem sV_inv {S S1 : hS} {k : Nat} {r : Option Nat} {i : Int32} {v : Value} (h : sV S k r i v = some S1) : ∃ (a n : Nat) (V : Nat → Value), r = some a ∧ S.1 a = some (k, n, V) ∧ ¬ (i < 0 ∨ n ≤ i.toNatClampNeg) ∧ S1 = hset S a (k, n, updV V i.toNatClampNeg v) := by
  obtain ⟨⟨a, n, V⟩, h1, h2⟩ := hbind h
  obtain ⟨e1, e2⟩ := hc_inv h1
  simp only at h2
  split at h2
  · cases h2
  · rename_i hin
    exact ⟨a, n, V, e1, e2, hin, (Option.some.inj h2).symm⟩
theorem nA_inv {S : hS} {k B : Nat} {n : Int32} {v : Value} {z : Option Nat × hS} (h : nA S k B n v = some z) : ¬ n < 0 ∧ n.toNatClampNeg ≤ B ∧ z = (some S.2, hpush S (k, n.toNatClampNeg, fun _ => v)) := by
  unfold nA at h
  split at h
  · cases h
  · rename_i hc
    exact ⟨fun z => hc (Or.inl z), Nat.not_lt.mp (fun z => hc (Or.inr z)), (Option.some.inj h).symm⟩
theorem h_iald (hx : p.tables.exec = Jvm.exec) (hb : c.code = cc) (hK : h_K D s) {r : Option Nat} {i x : Int32} (hV : h_V D A s S H locs) (hg : aI S 10 r i = some x) (hdg : decode cc pc = .ok (.iaload, 1))
    (kk : W p l e R s m args below meth c H locs cells slots Q (F0 m (pc + 1) ls (.int x :: rest))) : W p l e R s m args below meth c H locs cells slots Q (F0 m pc ls (.int i :: va_rf r :: rest)) := by
  obtain ⟨a, n, V, rfl, h2, h3, h4⟩ := aI_inv hg
  have hlt : i.toNatClampNeg < n := Nat.not_le.mp fun q => h3 (Or.inr q)
  have hc := (hV.1.2 a _ h2).arr (q := (D.2.1, .int)) (by decide) rfl
  exact W.iald (v := .int x) hx hb hc ((hK.1.2 0 _ rfl).1 n V) (fun q => by cases q) (by rw [arrV_size]; exact h3) (by rw [arrV_read _ _ hlt, h4]) rfl rfl hdg kk
theorem h_zald (hx : p.tables.exec = Jvm.exec) (hb : c.code = cc) (hK : h_K D s) {r : Option Nat} {i x : Int32} (hV : h_V D A s S H locs) (hg : aI S 11 r i = some x) (hdg : decode cc pc = .ok (.baload, 1))
    (kk : W p l e R s m args below meth c H locs cells slots Q (F0 m (pc + 1) ls (.int x :: rest))) : W p l e R s m args below meth c H locs cells slots Q (F0 m pc ls (.int i :: va_rf r :: rest)) := by
  obtain ⟨a, n, V, rfl, h2, h3, h4⟩ := aI_inv hg
  have hlt : i.toNatClampNeg < n := Nat.not_le.mp fun q => h3 (Or.inr q)
  have hc := (hV.1.2 a _ h2).arr (q := (D.2.2.1, .boolean)) (by decide) rfl
  exact W.zald (v := .int x) hx hb hc ((hK.1.2 1 _ rfl).1 n V) (fun q => by cases q) (by rw [arrV_size]; exact h3) (by rw [arrV_read _ _ hlt, h4]) rfl rfl hdg kk
theorem h_aald (hx : p.tables.exec = Jvm.exec) (hb : c.code = cc) (hK : h_K D s) {r x : Option Nat} {i : Int32} (hV : h_V D A s S H locs) (hg : aR S r i = some x) (hdg : decode cc pc = .ok (.aaload, 1))
    (kk : W p l e R s m args below meth c H locs cells slots Q (F0 m (pc + 1) ls (va_rf x :: rest))) : W p l e R s m args below meth c H locs cells slots Q (F0 m pc ls (.int i :: va_rf r :: rest)) := by
  obtain ⟨a, n, V, rfl, h2, h3, h4⟩ := aR_inv hg
  have hlt : i.toNatClampNeg < n := Nat.not_le.mp fun q => h3 (Or.inr q)
  have hc := (hV.1.2 a _ h2).arr (q := (D.2.2.2, .object RX4)) (by decide) rfl
  exact W.aald (v := va_rf x) (ty := .object RX4) hx hb hc ((hK.1.2 2 _ rfl).1 n V) rfl (fun q => by cases q) (by rw [arrV_size]; exact h3) (by rw [arrV_read _ _ hlt, h4]) rfl rfl hdg kk
theorem h_alen (hx : p.tables.exec = Jvm.exec) (hb : c.code = cc) (hK : h_K D s) {k : Nat} {r : Option Nat} {x : Int32} (hV : h_V D A s S H locs) (hk : k = 10 ∨ k = 11 ∨ k = 12) (hg : aL S k r = some x) (hdg : decode cc pc = .ok (.arraylength, 1))
    (kk : W p l e R s m args below meth c H locs cells slots Q (F0 m (pc + 1) ls (.int x :: rest))) : W p l e R s m args below meth c H locs cells slots Q (F0 m pc ls (va_rf r :: rest)) := by
  obtain ⟨a, n, V, rfl, h2, rfl⟩ := aL_inv hg
  rcases hk with rfl | rfl | rfl
  · exact W.alen hx hb ((hV.1.2 a _ h2).arr (q := (D.2.1, .int)) (by decide) rfl) ((hK.1.2 0 _ rfl).1 n V) (by rw [arrV_size]) rfl rfl hdg kk
  · exact W.alen hx hb ((hV.1.2 a _ h2).arr (q := (D.2.2.1, .boolean)) (by decide) rfl) ((hK.1.2 1 _ rfl).1 n V) (by rw [arrV_size]) rfl rfl hdg kk
  · exact W.alen hx hb ((hV.1.2 a _ h2).arr (q := (D.2.2.2, .object RX4)) (by decide) rfl) ((hK.1.2 2 _ rfl).1 n V) (by rw [arrV_size]) rfl rfl hdg kk
theorem h_iast (hx : p.tables.exec = Jvm.exec) (hb : c.code = cc) (hK : h_K D s) {r : Option Nat} {i x : Int32} {S1 : hS} (hV : h_V D A s S H locs) (hg : sV S 10 r i (.int x) = some S1) (hdg : decode cc pc = .ok (.iastore, 1))
    (kk : ∀ (H1 : Heap) (locs1 : List Loc), h_V D A s S1 H1 locs1 → W p l e R s m args below meth c H1 locs1 cells slots Q (F0 m (pc + 1) ls rest)) : W p l e R s m args below meth c H locs cells slots Q (F0 m pc ls (.int x :: .int i :: va_rf r :: rest)) := by
  obtain ⟨a, n, V, rfl, h2, h3, rfl⟩ := sV_inv hg
  have hc := (hV.1.2 a _ h2).arr (q := (D.2.1, .int)) (by decide) rfl
  refine W.iast hx hb hc ((hK.1.2 0 _ rfl).1 n V) (fun q => by cases q) (by rw [arrV_size]; exact h3) rfl rfl hdg fun H1 e1 z oq => ?_
  exact kk H1 _ (hV.set h2 (Or.inr ⟨_, Nat.le_of_ble_eq_true rfl, rfl, by rw [e1, arrV_store]⟩) z oq)
theorem h_zast (hx : p.tables.exec = Jvm.exec) (hb : c.code = cc) (hK : h_K D s) {r : Option Nat} {i x : Int32} {S1 : hS} (hV : h_V D A s S H locs) (hz : x = 0 ∨ x = 1) (hg : sV S 11 r i (.int x) = some S1) (hdg : decode cc pc = .ok (.bastore, 1))
    (kk : ∀ (H1 : Heap) (locs1 : List Loc), h_V D A s S1 H1 locs1 → W p l e R s m args below meth c H1 locs1 cells slots Q (F0 m (pc + 1) ls rest)) : W p l e R s m args below meth c H locs cells slots Q (F0 m pc ls (.int x :: .int i :: va_rf r :: rest)) := by
  obtain ⟨a, n, V, rfl, h2, h3, rfl⟩ := sV_inv hg
  have hc := (hV.1.2 a _ h2).arr (q := (D.2.2.1, .boolean)) (by decide) rfl
  refine W.zast hx hb hc ((hK.1.2 1 _ rfl).1 n V) (fun q => by cases q) (by rw [arrV_size]; exact h3) rfl rfl hdg fun H1 e1 z oq => ?_
  rw [zz_nar hz] at e1
  exact kk H1 _ (hV.set h2 (Or.inr ⟨_, Nat.le_of_ble_eq_true rfl, rfl, by rw [e1, arrV_store]⟩) z oq)
theorem h_aast (hx : p.tables.exec = Jvm.exec) (hb : c.code = cc) (hK : h_K D s) {r v : Option Nat} {i : Int32} {S1 : hS} (hV : h_V D A s S H locs) (hg : sR S r i v = some S1) (hdg : decode cc pc = .ok (.aastore, 1))
    (kk : ∀ (H1 : Heap) (locs1 : List Loc), h_V D A s S1 H1 locs1 → W p l e R s m args below meth c H1 locs1 cells slots Q (F0 m (pc + 1) ls rest)) : W p l e R s m args below meth c H locs cells slots Q (F0 m pc ls (va_rf v :: .int i :: va_rf r :: rest)) := by
  unfold sR at hg
  split at hg
  · rename_i hv
    subst hv
    obtain ⟨a, n, V, rfl, h2, h3, rfl⟩ := sV_inv hg
    have hc := (hV.1.2 a _ h2).arr (q := (D.2.2.2, .object RX4)) (by decide) rfl
    refine va_WaastN (C := RX4) hx hb hc ((hK.1.2 2 _ rfl).1 n V) (fun q => by cases q) (by rw [arrV_size]; exact h3) rfl rfl hdg fun H1 e1 z oq => ?_
    exact kk H1 _ (hV.set h2 (Or.inr ⟨_, Nat.le_of_ble_eq_true rfl, rfl, by rw [e1, arrV_store]⟩) z oq)
  · obtain ⟨b, hb1, hg2⟩ := hbind hg
    clear hg
    obtain ⟨n', V', rfl, hb2⟩ := rcv_inv hb1
    obtain ⟨a, n, V, rfl, h2, h3, rfl⟩ := sV_inv hg2
    have hlt : i.toNatClampNeg < n := Nat.not_le.mp fun q => h3 (Or.inr q)
    have h0 : ¬ i < 0 := fun q => h3 (Or.inl q)
    have hc := (hV.1.2 a _ h2).arr (q := (D.2.2.2, .object RX4)) (by decide) rfl
    obtain ⟨cellV, g1, g2, g3, -⟩ := (hV.1.2 b _ hb2).obj (r := (RX4, TX4, 11)) rfl
    have hcls := (hK.1.1 4 (RX4, TX4, 11) rfl).2
    obtain ⟨kA, comp, k1, k2, k3, -⟩ := (hK.1.2 2 _ rfl).2
    have hcomp : comp = D.1.1 4 := Option.some.inj (k3.symm.trans hcls.1)
    subst hcomp
    obtain ⟨kC, hkC, -⟩ := hcls.2
    refine W.aast hx hb hc (fun q h => by cases h) (fun h => by cases h) k1 k2 rfl hkC ⟨h0, by rw [arrV_size]; exact hlt⟩ g1 (fun q h => by rw [g3] at h; cases h) (by rw [g2]; exact hkC) (by rw [g2]; exact va_assign hcls) rfl rfl hdg fun H1 e1 z oq => ?_
    exact kk H1 _ (hV.set h2 (Or.inr ⟨_, Nat.le_of_ble_eq_true rfl, rfl, by rw [e1, arrV_store]⟩) z oq)
theorem h_newa {atype : ArrayType} {k B : Nat} {q : ClassId × FieldType} (hx : p.tables.exec = Jvm.exec) (hb : c.code = cc) (hK : h_K D s) (harr : (Cond.arrayClass (newarray.typeOf atype)).before args s = true) (hq : q.2 = newarray.typeOf atype) (hk : 10 ≤ k) (ht : (h_tys D)[k - 10]? = some q) (hra : va_RA s q.1 (newarray.typeOf atype) → s.vm.findClass ("[" ++ (newarray.typeOf atype).toString) = some q.1)
    {n : Int32} {z : Option Nat × hS} (hV : h_V D A s S H locs) (hg : nA S k B n (defaultValue (newarray.typeOf atype)) = some z) (hbytes : B * componentBytes (newarray.typeOf atype) ≤ 536870912) (hcells : cells + 1 ≤ R.cells) (hslots : slots + B ≤ R.slots) (hdg : decode cc pc = .ok (.newarray atype, 2))
    (kk : ∀ (H1 : Heap), h_V D A s z.2 H1 locs → W p l e R s m args below meth c H1 locs (cells + 1) (slots + B) Q (F0 m (pc + 2) ls (va_rf z.1 :: rest))) : W p l e R s m args below meth c H locs cells slots Q (F0 m pc ls (.int n :: rest)) := by
  obtain ⟨hn, hB, rfl⟩ := nA_inv hg
  obtain ⟨q1, q2⟩ := q
  simp only at hq
  subst hq
  refine va_newaK hx hb harr rfl hdg rfl hn rfl (Nat.le_trans (Nat.mul_le_mul_right _ hB) hbytes) hcells (by omega) hV.1.1 fun H1 cA e1 z1 o1 hAr hNm => ?_
  have hcA : cA = q1 := by
    have h := hra (hK.1.2 (k - 10) _ ht).2
    exact Option.some.inj (hNm.symm.trans h)
  subst hcA
  refine W.widen (k := cells + 1) (n := slots + B) (Nat.le_refl _) (by omega) ?_
  exact kk H1 (hV.push (Or.inr ⟨_, hk, ht, e1⟩) (by rw [z1, hV.1.1]) (fun q hq => o1 q (by rw [← hV.1.1]; exact hq)))
theorem h_newq {B : Nat} {own : String} {index : Nat} (hx : p.tables.exec = Jvm.exec) (hb : c.code = cc) (hK : h_K D s) (hown : s.vm.findClass own = some m.cls) (hcl : (Cond.classLink own index RX4).before args s = true) (hover : va_AO RX4 s)
    {n : Int32} {z : Option Nat × hS} (hV : h_V D A s S H locs) (hg : nA S 12 B n .null = some z) (hbytes : B * 4 ≤ 536870912) (hcells : cells + 1 ≤ R.cells) (hslots : slots + B ≤ R.slots) (hdg : decode cc pc = .ok (.anewarray index, 3))
    (kk : ∀ (H1 : Heap), h_V D A s z.2 H1 locs → W p l e R s m args below meth c H1 locs (cells + 1) (slots + B) Q (F0 m (pc + 3) ls (va_rf z.1 :: rest))) : W p l e R s m args below meth c H locs cells slots Q (F0 m pc ls (.int n :: rest)) := by
  obtain ⟨hn, hB, rfl⟩ := nA_inv hg
  refine W.anew hx hb hown hcl (va_AO.use hover) rfl hdg rfl hn (Nat.le_trans (Nat.mul_le_mul_right _ hB) hbytes) hcells (by omega) fun cA kA comp f1 f2 f3 f4 => ?_
  generalize hH1 : H.push ({ cls := cA, slots := Array.replicate n.toNatClampNeg .null, vm := .none } : Cell) = H1
  have z1 : H1.size = H.size + 1 := by rw [← hH1, Array.size_push]
  have e1 : H1[H.size]? = some (arrV cA n.toNatClampNeg (fun _ => .null)) := by rw [← hH1, Array.getElem?_push_size, ← arrV_new]
  have o1 : ∀ q : Nat, q < H.size → H1[q]? = H[q]? := fun q hq => by rw [← hH1, Array.getElem?_push, if_neg (Nat.ne_of_lt hq)]
  obtain ⟨kA', comp', k1, k2, k3, k4⟩ := (hK.1.2 2 _ rfl).2
  have hcA : cA = D.2.2.2 := Option.some.inj (f1.symm.trans k4)
  subst hcA
  rw [hV.1.1] at e1
  refine W.widen (k := cells + 1) (n := slots + B) (Nat.le_refl _) (by omega) ?_
  rw [hV.1.1]
  exact kk H1 (hV.push (Or.inr ⟨(D.2.2.2, .object RX4), Nat.le_of_ble_eq_true rfl, rfl, e1⟩) z1 o1)
theorem h_new {own C : String} {T : u_T} {N ci index : Nat} {ty : Nat → FieldType} (hx : p.tables.exec = Jvm.exec) (hb : c.code = cc) (hts : ∀ w ∈ hWs, w.before args s = true) (hK : h_K D s) (hin : ∀ w ∈ u_ws C T N, w ∈ hWs) (hty : ∀ k, k < N → parseFieldDescriptor (T k).2.2.1 = some (ty k)) (hown : s.vm.findClass own = some m.cls) (hcl : (Cond.classLink own index C).before args s = true) (hinst : (Cond.instantiable C N).before args s = true) (hini : (Cond.initialized C).before args s = true)
    (hc : vwCl[ci]? = some (C, T, N)) (hdf1 : hdf ci = fun j => defaultValue (ty j)) (hV : h_V D A s S H locs) (hcells : cells + 1 ≤ R.cells) (hslots : slots + N ≤ R.slots) (hdg : decode cc pc = .ok (.new index, 3))
    (kk : ∀ (H1 : Heap), h_V D A s (nO S ci) H1 locs → W p l e R s m args below meth c H1 locs (cells + 1) (slots + N) Q (F0 m (pc + 3) ls (va_rf (some S.2) :: rest))) : W p l e R s m args below meth c H locs cells slots Q (F0 m pc ls rest) := by
  have hKn := hK.1.1 ci _ hc
  refine W.newcK hx hb hown hcl hinst hini rfl hdg hcells hslots hKn.2.1 hV.1.1 fun H1 kC hkC e1 z1 o1 => ?_
  refine kk H1 (hV.push (Or.inl ⟨_, hc, ?_⟩) (by rw [z1, hV.1.1]) (fun q hq => o1 q (by rw [← hV.1.1]; exact hq)))
  show t_OB S.2 (D.1.1 ci) N (D.1.2 ci) H1 (hdf ci)
  rw [hdf1]
  exact u_born ty hts hin hKn hkC e1 hty
end HARR
section HCALL
variable {p : Program} {l : Launch} {e : Env} {R : Room} {s : State} {m : MethodId} {args : Array Value} {below : List Frame} {meth : Method} {c : Code} {H : Heap} {locs : List Loc} {cells slots : Nat} {Q : State → Prop}
variable {pc : Nat} {ls : Array Slot} {rest st0 : List Value} {D : hD} {A : Nat → Prop} {S S1 : hS} {rv : Option Value} {a : Array Value} {mc ms : Nat}
theorem h_after (hV : h_V D A s S H locs) (hr : va_Run p l e R s m args below meth c H locs cells slots mc ms (F0 m pc ls st0) rest (h_Q D (h_A S) rv S1 a) (h_A S))
    (kk : ∀ (H1 : Heap) (locs1 : List Loc), h_V D A s S1 H1 locs1 → W p l e R s m args below meth c H1 locs1 (cells + mc) (slots + ms) Q (F0 m (pc + 3) ls (rv.toList ++ rest))) : W p l e R s m args below meth c H locs cells slots Q (F0 m pc ls st0) := by
  intro T hT X
  obtain ⟨v, st₀, t, T', L, h0, X', hL, e1, e2, ⟨hv, hP1, hD1, hz, hk⟩, st⟩ := hr T hT X
  cases hv
  rw [h0] at hz hk
  have hA := hV.A
  obtain ⟨⟨p1, p2⟩, hd, hS, hA0⟩ := hV
  obtain ⟨t2, a1, b1⟩ := kk t.heap (locs ++ L) ⟨hP1, fun q hq => hA q (hD1 q hq), ⟨Nat.le_trans hS.1 hz, fun q h1 h2 => by rw [hk q (Nat.lt_of_lt_of_le h1 hS.1) (fun z => h2 (hA q z))]; exact hS.2.1 q h1 h2, fun q hq => by
      rcases List.mem_append.mp hq with h | h
      · exact hS.2.2 q h
      · exact hA _ (hL q h)⟩, hA0⟩ T' e1 X'
  exact ⟨t2, st t2 a1, b1⟩
theorem h_preS {As : List Value} (hK : h_K D s) (hP : h_P D S H) : PreS s H (h_Pc D As S) As := ⟨h_Pc.blind, fun U hU hW => ⟨rfl, by rw [hU]; exact hP, hK.warm hW⟩⟩
theorem h_preV {As : List Value} {b ci n : Nat} {V : Nat → Value} {q : vw_C} (hK : h_K D s) (hP : h_P D S H) (hb : S.1 b = some (ci, n, V)) (hc : vwCl[ci]? = some q) : PreV s H q.1 b (h_Pc D (.ref b :: As) S) As := by
  refine ⟨h_Pc.blind, ?_, fun U hU hW => ⟨rfl, by rw [hU]; exact hP, hK.warm hW⟩⟩
  obtain ⟨cell, g1, g2, g3, -⟩ := (hP.2 b _ hb).obj hc
  exact ⟨cell, g1, by rw [g3]; rfl, by rw [g2]; exact (hK.1.1 ci q hc).2.1⟩
end HCALL
section HRUN
variable {p : Program} {l : Launch} {e : Env} {R : Room} {s : State} {m : MethodId} {args : Array Value} {below : List Frame} {meth : Method} {c : Code} {H : Heap} {locs : List Loc} {cells slots : Nat} {Q : State → Prop}
variable {pc : Nat} {ls : Array Slot} {rest : List Value} {D : hD} {A : Nat → Prop} {S S1 : hS} {rv : Option Value} {mc ms : Nat} {cc : ByteArray} {nL : Nat} {own : String}
variable {y0 : MethodName} {c0 : ByteArray} {n0 : Nat} {r0 : Option FieldType} {y : MethodName} {bytes : ByteArray} {maxL n index : Nat} {ret : Option FieldType} {rm : Room} {As : List Value}
abbrev hM (l : Launch) (D : hD) (y : MethodName) (bytes : ByteArray) (maxL : Nat) (ret : Option FieldType) (fr lo mc ms : Nat) (av : List Value) (S : hS) (rv : Option Value) (S1 : hS) : Prop := Met l y (hWy y bytes maxL ret) { frames := fr, cells := mc, slots := ms, locals := lo } (h_Pc D av S) (h_Q D (h_A S) rv S1) mc ms (h_A S)
abbrev hFix (p : Program) (m : MethodId) (c : Code) (cc : ByteArray) (nL : Nat) (s : State) (args : Array Value) (own : String) : Prop := ∃ (y0 : MethodName) (c0 : ByteArray) (n0 : Nat) (r0 : Option FieldType), CallFix p m c cc nL s args (hWy y0 c0 n0 r0) own
theorem hFix.ts (F : hFix p m c cc nL s args own) : ∀ w ∈ hWs, w.before args s = true := by
  obtain ⟨y0, c0, n0, r0, -, -, -, -, h⟩ := F
  exact fun w hw => h w (List.mem_cons_of_mem _ hw)
abbrev hDesc (y : MethodName) (n : Nat) : Prop := y.cls ≠ "java/lang/invoke/MethodHandle" ∧ y.cls ≠ "java/lang/invoke/VarHandle" ∧ (parseMethodDescriptor y.desc).map (fun d => d.parameters.length) = some n
abbrev hRoom (R : Room) (fr maxL lo : Nat) : Prop := fr + 1 ≤ R.frames ∧ 8 + (maxL + 11) + lo ≤ R.locals
variable {fr lo : Nat}
theorem h_len (hd : (parseMethodDescriptor y.desc).map (fun d => d.parameters.length) = some n) : ∀ sig, parseMethodDescriptor y.desc = some sig → n = sig.parameters.length := by
  intro sig h
  rw [h] at hd
  exact (Option.some.inj hd).symm
/-- a call of a method of the own class, by its object -/
theorem h_callV {b ci k : Nat} {V : Nat → Value} {q : vw_C} (F : hFix p m c cc nL s args own) (hK : h_K D s) (hV : h_V D A s S H locs) (hb : S.1 b = some (ci, k, V)) (hc : vwCl[ci]? = some q) (hyq : y.cls = q.1)
    (w1 : Cond.code y bytes maxL ret ∈ hWs) (w2 : Cond.methodLink own index y ∈ hWs) (w3 : Cond.instanceMethod y ∈ hWs) (w4 : Cond.selects q.1 y y ∈ hWs) (w5 : Cond.initialized y.cls ∈ hWs) (hd : hDesc y n) (hR : hRoom R fr maxL lo) (hn : As.length = n) (hsz : ls.size = nL) (hW : (rest.map fun v => v.category).sum ≤ 8) (hdg : decode cc pc = .ok (.invokevirtual index, 3)) (hf : cells + mc ≤ R.cells ∧ slots + ms ≤ R.slots)
    {st0 st1 : List Value} (hs1 : rv.toList ++ rest = st1) (hst : st0 = As.reverse ++ .ref b :: rest) (hMt : hM l D y bytes maxL ret fr lo mc ms (.ref b :: As) S rv S1)
    (kk : ∀ (H1 : Heap) (locs1 : List Loc), h_V D A s S1 H1 locs1 → W p l e R s m args below meth c H1 locs1 (cells + mc) (slots + ms) Q (F0 m (pc + 3) ls st1)) : W p l e R s m args below meth c H locs cells slots Q (F0 m pc ls st0) := by
  subst hs1
  have hts := F.ts
  obtain ⟨y0, c0, n0, r0, Fx⟩ := F
  refine h_after hV (va_runV (As := As) (rest := rest) Fx hMt (C := q.1) (n := n) ⟨⟨rfl, rfl, hR.1, hR.2, pay_in Fx.2.2.2.2 (hWy_good w1), List.mem_cons_self, hts _ w1, hts _ w5, ⟨hd.1, hd.2.1⟩, h_len hd.2.2, hts _ w2⟩, hts _ w3, hts _ w4⟩ (h_preV hK hV.1 hb hc) rfl hn hsz hst (lv_room hW) hdg hf) kk
theorem h_callVN {b ci k : Nat} {V : Nat → Value} {q : vw_C} {host : String} (F : hFix p m c cc nL s args own) (hK : h_K D s) (hV : h_V D A s S H locs) (hb : S.1 b = some (ci, k, V)) (hc : vwCl[ci]? = some q) (hyq : y.cls = q.1)
    (w1 : Cond.code y bytes maxL ret ∈ hWs) (w2 : va_Nw (.methodLinkNest own index y host) s) (w3 : Cond.instanceMethod y ∈ hWs) (w4 : Cond.selects q.1 y y ∈ hWs) (w5 : Cond.initialized y.cls ∈ hWs) (hd : hDesc y n) (hR : hRoom R fr maxL lo) (hn : As.length = n) (hsz : ls.size = nL) (hW : (rest.map fun v => v.category).sum ≤ 8) (hdg : decode cc pc = .ok (.invokevirtual index, 3)) (hf : cells + mc ≤ R.cells ∧ slots + ms ≤ R.slots)
    {st0 st1 : List Value} (hs1 : rv.toList ++ rest = st1) (hst : st0 = As.reverse ++ .ref b :: rest) (hMt : hM l D y bytes maxL ret fr lo mc ms (.ref b :: As) S rv S1)
    (kk : ∀ (H1 : Heap) (locs1 : List Loc), h_V D A s S1 H1 locs1 → W p l e R s m args below meth c H1 locs1 (cells + mc) (slots + ms) Q (F0 m (pc + 3) ls st1)) : W p l e R s m args below meth c H locs cells slots Q (F0 m pc ls st0) := by
  subst hs1
  have hts := F.ts
  obtain ⟨y0, c0, n0, r0, Fx⟩ := F
  refine h_after hV (va_runVN (As := As) (rest := rest) Fx hMt (C := q.1) (n := n) ⟨va_cnB n Fx.2.2.2.2 (hWy_good w1) rfl rfl rfl w2 (hts _ w5) hd hR, hts _ w3, hts _ w4⟩ (h_preV hK hV.1 hb hc) rfl hn hsz hst (lv_room hW) hdg hf) kk
/-- a call of an inherited method (y = owner's), or of one that is abstract at its owner -/
theorem h_callU {b ci k : Nat} {V : Nat → Value} {q : vw_C} {owner : String} {x : MethodName} (F : hFix p m c cc nL s args own) (hK : h_K D s) (hV : h_V D A s S H locs) (hb : S.1 b = some (ci, k, V)) (hc : vwCl[ci]? = some q)
    (w1 : Cond.code y bytes maxL ret ∈ hWs) (w2 : Cond.methodLink own index x ∈ hWs) (w3 : Cond.instanceMethod y ∈ hWs) (w4 : Cond.selects q.1 x y ∈ hWs) (w5 : Cond.initialized y.cls ∈ hWs) (w6 : Cond.sameMethod x.cls owner x.name x.desc ∈ hWs) (w7 : va_Decl s ⟨owner, x.name, x.desc⟩) (ho : owner ≠ "java/lang/invoke/MethodHandle" ∧ owner ≠ "java/lang/invoke/VarHandle") (hd : hDesc x n) (hR : hRoom R fr maxL lo) (hn : As.length = n) (hsz : ls.size = nL) (hW : (rest.map fun v => v.category).sum ≤ 8) (hdg : decode cc pc = .ok (.invokevirtual index, 3)) (hf : cells + mc ≤ R.cells ∧ slots + ms ≤ R.slots)
    {st0 st1 : List Value} (hs1 : rv.toList ++ rest = st1) (hst : st0 = As.reverse ++ .ref b :: rest) (hMt : hM l D y bytes maxL ret fr lo mc ms (.ref b :: As) S rv S1)
    (kk : ∀ (H1 : Heap) (locs1 : List Loc), h_V D A s S1 H1 locs1 → W p l e R s m args below meth c H1 locs1 (cells + mc) (slots + ms) Q (F0 m (pc + 3) ls st1)) : W p l e R s m args below meth c H locs cells slots Q (F0 m pc ls st0) := by
  subst hs1
  have hts := F.ts
  obtain ⟨y0, c0, n0, r0, Fx⟩ := F
  refine h_after hV (va_runU (As := As) (rest := rest) Fx hMt (C := q.1) (owner := owner) (x := x) (n := n) ⟨⟨rfl, rfl, hR.1, hR.2, pay_in Fx.2.2.2.2 (hWy_good w1), List.mem_cons_self⟩, hts _ w1, hts _ w5, ho, h_len hd.2.2, hts _ w2, hts _ w6, w7, hts _ w4, hts _ w3⟩ (h_preV hK hV.1 hb hc) rfl hn hsz hst (lv_room hW) hdg hf) kk
theorem h_callS (F : hFix p m c cc nL s args own) (hK : h_K D s) (hV : h_V D A s S H locs)
    (w1 : Cond.code y bytes maxL ret ∈ hWs) (w2 : Cond.methodLink own index y ∈ hWs) (w3 : Cond.static y ∈ hWs) (w5 : Cond.initialized y.cls ∈ hWs) (hd : hDesc y n) (hR : hRoom R fr maxL lo) (hn : As.length = n) (hsz : ls.size = nL) (hW : (rest.map fun v => v.category).sum ≤ 8) (hdg : decode cc pc = .ok (.invokestatic index, 3)) (hf : cells + mc ≤ R.cells ∧ slots + ms ≤ R.slots)
    {st0 st1 : List Value} (hs1 : rv.toList ++ rest = st1) (hst : st0 = As.reverse ++ rest) (hMt : hM l D y bytes maxL ret fr lo mc ms As S rv S1)
    (kk : ∀ (H1 : Heap) (locs1 : List Loc), h_V D A s S1 H1 locs1 → W p l e R s m args below meth c H1 locs1 (cells + mc) (slots + ms) Q (F0 m (pc + 3) ls st1)) : W p l e R s m args below meth c H locs cells slots Q (F0 m pc ls st0) := by
  subst hs1
  have hts := F.ts
  obtain ⟨y0, c0, n0, r0, Fx⟩ := F
  refine h_after hV (va_runS (As := As) (rest := rest) Fx hMt (n := n) ⟨⟨rfl, rfl, hR.1, hR.2, pay_in Fx.2.2.2.2 (hWy_good w1), List.mem_cons_self, hts _ w1, hts _ w5, ⟨hd.1, hd.2.1⟩, h_len hd.2.2, hts _ w2⟩, hts _ w3⟩ (h_preS hK hV.1) rfl hn hsz hst (lv_room hW) hdg hf) kk
theorem h_callI {b : Nat} (F : hFix p m c cc nL s args own) (hK : h_K D s) (hV : h_V D A s S H locs)
    (w1 : Cond.code y bytes maxL none ∈ hWs) (w2 : Cond.methodLink own index y ∈ hWs) (w3 : Cond.instanceMethod y ∈ hWs) (w5 : Cond.initialized y.cls ∈ hWs) (hy : y.name = "<init>") (hd : hDesc y n) (hR : hRoom R fr maxL lo) (hn : As.length = n) (hsz : ls.size = nL) (hW : (rest.map fun v => v.category).sum ≤ 8) (hdg : decode cc pc = .ok (.invokespecial index, 3)) (hf : cells + mc ≤ R.cells ∧ slots + ms ≤ R.slots)
    {st0 st1 : List Value} (hs1 : rv.toList ++ rest = st1) (hst : st0 = As.reverse ++ .ref b :: rest) (hMt : hM l D y bytes maxL none fr lo mc ms (.ref b :: As) S rv S1)
    (kk : ∀ (H1 : Heap) (locs1 : List Loc), h_V D A s S1 H1 locs1 → W p l e R s m args below meth c H1 locs1 (cells + mc) (slots + ms) Q (F0 m (pc + 3) ls st1)) : W p l e R s m args below meth c H locs cells slots Q (F0 m pc ls st0) := by
  subst hs1
  have hts := F.ts
  obtain ⟨y0, c0, n0, r0, Fx⟩ := F
  refine h_after hV (va_runI (As := As) (rest := rest) Fx hMt (n := n) ⟨⟨rfl, rfl, hR.1, hR.2, pay_in Fx.2.2.2.2 (hWy_good w1), List.mem_cons_self, hts _ w1, hts _ w5, ⟨hd.1, hd.2.1⟩, h_len hd.2.2, hts _ w2⟩, hy, hts _ w3⟩ (h_preS hK hV.1) rfl hn hsz hst (lv_room hW) hdg hf) kk
theorem h_callIN {b : Nat} {host : String} (F : hFix p m c cc nL s args own) (hK : h_K D s) (hV : h_V D A s S H locs)
    (w1 : Cond.code y bytes maxL none ∈ hWs) (w2 : va_Nw (.methodLinkNest own index y host) s) (w3 : Cond.instanceMethod y ∈ hWs) (w5 : Cond.initialized y.cls ∈ hWs) (hy : y.name = "<init>") (hd : hDesc y n) (hR : hRoom R fr maxL lo) (hn : As.length = n) (hsz : ls.size = nL) (hW : (rest.map fun v => v.category).sum ≤ 8) (hdg : decode cc pc = .ok (.invokespecial index, 3)) (hf : cells + mc ≤ R.cells ∧ slots + ms ≤ R.slots)
    {st0 st1 : List Value} (hs1 : rv.toList ++ rest = st1) (hst : st0 = As.reverse ++ .ref b :: rest) (hMt : hM l D y bytes maxL none fr lo mc ms (.ref b :: As) S rv S1)
    (kk : ∀ (H1 : Heap) (locs1 : List Loc), h_V D A s S1 H1 locs1 → W p l e R s m args below meth c H1 locs1 (cells + mc) (slots + ms) Q (F0 m (pc + 3) ls st1)) : W p l e R s m args below meth c H locs cells slots Q (F0 m pc ls st0) := by
  subst hs1
  have hts := F.ts
  obtain ⟨y0, c0, n0, r0, Fx⟩ := F
  refine h_after hV (va_runIN (As := As) (rest := rest) Fx hMt (n := n) ⟨va_cnB n Fx.2.2.2.2 (hWy_good w1) rfl rfl rfl w2 (hts _ w5) hd hR, hy, hts _ w3⟩ (h_preS hK hV.1) rfl hn hsz hst (lv_room hW) hdg hf) kk
end HRUN
