theorem h_V.setL {D : hD} {A : Nat → Prop} {s : State} {S : hS} {H H1 : Heap} {locs L : List Loc} {a : Nat} {c c' : hC} (h : h_V D A s S H locs) (ha : S.1 a = some c) (h1 : h_at D a c' H1) (hz : H1.size = H.size) (oq : ∀ q, q ≠ a → H1[q]? = H[q]?) (hL : ∀ x ∈ L, x.base = a) : h_V D A s (hset S a c') H1 (locs ++ L) := by
  obtain ⟨g1, g2, g3, g4⟩ := h.set (k := 0) ha h1 hz oq
  refine ⟨g1, g2, ⟨g3.1, g3.2.1, fun x hx => ?_⟩, g4⟩
  rcases List.mem_append.mp hx with hx | hx
  · exact g3.2.2 x (List.mem_append_left _ hx)
  · rw [hL x hx]
    exact h.2.1 a (by rw [ha]; exact fun z => by cases z)
theorem h_copy {p : Program} {l : Launch} {e : Env} {R : Room} {s : State} {m : MethodId} {args : Array Value} {below : List Frame} {meth : Method} {c : Code} {H : Heap} {locs : List Loc} {cells slots : Nat} {Q : State → Prop} {cc : ByteArray} {pc : Nat} {ls : Array Slot} {rest : List Value} {D : hD} {A : Nat → Prop} {S S1 : hS}
    (hexec : p.tables.exec = Jvm.exec) (hb : c.code = cc) (hml : c.maxLocals = ls.size) {own : String} {index : Nat} (hown : s.vm.findClass own = some m.cls) (hlink : (Cond.methodLink own index arraycopyName).before args s = true) (hnat : (Cond.native arraycopyName).before args s = true) (hstat : (Cond.static arraycopyName).before args s = true) (hini : (Cond.initialized "java/lang/System").before args s = true)
    (hK : h_K D s) (hV : h_V D A s S H locs) {r0 r1 : Option Nat} {sp dp n : Int32} (hg : aC S r0 sp r1 dp n = some S1)
    (hframes : 1 ≤ R.frames) (hlocals : (rest.map fun v => v.category).sum + (nativeFrameWords "java/lang/System" "arraycopy" 5 + 11) ≤ R.locals) (hdg : decode cc pc = .ok (.invokestatic index, 3))
    (kk : ∀ (H1 : Heap) (locs1 : List Loc), h_V D A s S1 H1 locs1 → W p l e R s m args below meth c H1 locs1 cells slots Q (F0 m (pc + 3) ls rest)) : W p l e R s m args below meth c H locs cells slots Q (F0 m pc ls (.int n :: .int dp :: va_rf r1 :: .int sp :: va_rf r0 :: rest)) := by
  have nn : ∀ z : Int32, ¬ z < 0 → z.toInt = (z.toNatClampNeg : Int) := by
    intro z hz
    have hz0 : (0 : Int) ≤ z.toInt := by
      have := Int32.not_lt.mp hz
      simpa using Int32.le_iff_toInt_le.mp this
    show z.toInt = ((z.toInt.toNat : Nat) : Int)
    omega
  obtain ⟨⟨a0, n0, f⟩, hc0, hg1⟩ := hbind hg
  clear hg
  obtain ⟨⟨a, n1, g⟩, hc1, hg2⟩ := hbind hg1
  clear hg1
  obtain ⟨rfl, b0⟩ := hc_inv hc0
  obtain ⟨rfl, b1⟩ := hc_inv hc1
  simp only at hg2
  split at hg2
  · cases hg2
  · rename_i hcnd
    split at hg2
    · rename_i hint
      obtain ⟨h1, h2, h3, h4, h5⟩ : ¬ sp < 0 ∧ ¬ dp < 0 ∧ ¬ n < 0 ∧ sp.toNatClampNeg + n.toNatClampNeg ≤ n0 ∧ dp.toNatClampNeg + n.toNatClampNeg ≤ n1 := by
        refine ⟨fun z => hcnd (Or.inl z), fun z => hcnd (Or.inr (Or.inl z)), fun z => hcnd (Or.inr (Or.inr (Or.inl z))), Nat.not_lt.mp (fun z => hcnd (Or.inr (Or.inr (Or.inr (Or.inl z))))), Nat.not_lt.mp (fun z => hcnd (Or.inr (Or.inr (Or.inr (Or.inr z)))))⟩
      have hq := Option.some.inj hg2
      intro T hT X
      have hc0 : H[a0]? = some (arrV D.2.1 n0 f) := (hV.1.2 a0 _ b0).arr (q := (D.2.1, .int)) (by decide) rfl
      have hc1 : H[a]? = some (arrV D.2.1 n1 g) := (hV.1.2 a _ b1).arr (q := (D.2.1, .int)) (by decide) rfl
      obtain ⟨-, k0, hk0, cm0, hkk0⟩ := (hK.1.2 0 _ rfl).1 n0 f
      obtain ⟨-, k1, hk1, cm1, hkk1⟩ := (hK.1.2 0 _ rfl).1 n1 g
      obtain ⟨vm', X', step⟩ := X.arraycopy hexec hown hlink hnat hstat hini (src := a0) (dst := a) (cs := arrV D.2.1 n0 f) (cd := arrV D.2.1 n1 g) (srcPos := sp) (destPos := dp) (n := n) (by rw [hT]; exact hc0) (by rw [hT]; exact hc1)
        (fun _ h => by cases h) (fun _ h => by cases h) (fun h => by cases h) (fun h => by cases h) hk0 hk1 hkk0 hkk1 (by simp [refKind]) h1 h2 h3
        (by rw [nn sp h1, nn n h3, arrV_size]; omega)
        (by rw [nn dp h2, nn n h3, arrV_size]; omega)
        (fun vm₁ _ i hi => by
          obtain ⟨x, hx⟩ := Option.isSome_iff_exists.mp (hint i hi)
          have hx := vI_inv hx
          have e : (arrV D.2.1 n0 f).slots.getD (sp.toNatClampNeg + i) .null = .int x := by
            rw [Array.getD_eq_getD_getElem?, arrV_read _ _ (by omega), ← hx]
            rfl
          refine ⟨?_, ?_⟩
          · rw [e]
            rfl
          · rw [e]
            exact trivial)
        (g := F0 m pc ls (.int n :: .int dp :: .ref a :: .int sp :: .ref a0 :: rest)) rfl (by rw [hml]) (rest := rest) rfl (by rw [hb]; exact hdg) hframes (by show 2 * 0 + _ + _ ≤ _; omega)
      have e1 : copied (arrV D.2.1 n0 f) (arrV D.2.1 n1 g) sp dp n = arrV D.2.1 n1 (va_cpy f g sp.toNatClampNeg dp.toNatClampNeg n.toNatClampNeg) := va_copied (fun z => z) D.2.1 D.2.1 f g h4
      rw [e1] at X' step
      have hl : a < H.size := (Array.getElem?_eq_some_iff.mp hc1).1
      have hheap : ((T.setVm vm').setCell a (arrV D.2.1 n1 (va_cpy f g sp.toNatClampNeg dp.toNatClampNeg n.toNatClampNeg))).heap = H.setIfInBounds a (arrV D.2.1 n1 (va_cpy f g sp.toNatClampNeg dp.toNatClampNeg n.toNatClampNeg)) := by rw [← hT]; rfl
      have oq : ∀ q : Nat, q ≠ a → (H.setIfInBounds a (arrV D.2.1 n1 (va_cpy f g sp.toNatClampNeg dp.toNatClampNeg n.toNatClampNeg)))[q]? = H[q]? := fun q hq => by simp [Array.getElem?_setIfInBounds, Ne.symm hq]
      obtain ⟨t, a1, b1⟩ := kk _ _ (by
        rw [← hq]
        exact hV.setL b1 (Or.inr ⟨(D.2.1, .int), Nat.le_of_ble_eq_true rfl, rfl, show (H.setIfInBounds a _)[a]? = some _ by simp [Array.getElem?_setIfInBounds, hl]⟩) (by simp) oq (fun x hx => by
          obtain ⟨z, -, hz⟩ := List.mem_map.mp hx
          rw [← hz])) _ hheap X'
      exact ⟨t, step t a1, b1⟩
    · cases hg2
theorem h_tinj {x : Int32} {k : Int32} (h : ¬ x = k) : x.toInt ≠ k.toInt := fun z => h (Int32.toInt_inj.mp z)
