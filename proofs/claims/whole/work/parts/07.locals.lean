/-! locals and stacks of ints and references alone -/
abbrev hT : Type := Int32 ⊕ Option Nat
def hv : hT → Value
  | .inl x => .int x
  | .inr r => va_rf r
def hvq (q : Nat × hT) : Nat × Value := (q.1, hv q.2)
theorem hr_cat (r : Option Nat) : (va_rf r).category = 1 := by cases r <;> rfl
theorem hv_cat (t : hT) : (hv t).category = 1 := by
  cases t with
  | inl x => rfl
  | inr r => exact hr_cat r
theorem hW_sum : ∀ ts : List hT, ((ts.map hv).map fun v => v.category).sum = ts.length
  | [] => rfl
  | t :: ts => by
    have h := hW_sum ts
    simp only [List.map_cons, List.sum_cons, List.length_cons, hv_cat, h]
    omega
theorem hW_ok (ts : List hT) (h : ts.length ≤ 8) : ((ts.map hv).map fun v => v.category).sum ≤ 8 := by rw [hW_sum]; exact h
theorem hW_okL (ts : List hT) {k N : Nat} (h : ts.length + k ≤ N) : ((ts.map hv).map fun v => v.category).sum + k ≤ N := by rw [hW_sum]; exact h
def hl_has (ls : Array Slot) (nL : Nat) (tl : List (Nat × hT)) : Prop := lv_has ls nL (tl.map hvq)
theorem hi_at {ls : Array Slot} {nL : Nat} {tl : List (Nat × hT)} (h : hl_has ls nL tl) (k : Nat) {i : Nat} {x : Int32} (hk : tl[k]? = some (i, .inl x)) : ls[i]? = some (.val (.int x)) :=
  lv_at h k (by rw [List.getElem?_map, hk]; rfl)
theorem hr_at {ls : Array Slot} {nL : Nat} {tl : List (Nat × hT)} (h : hl_has ls nL tl) (k : Nat) {i : Nat} {r : Option Nat} (hk : tl[k]? = some (i, .inr r)) : ls[i]? = some (.val (va_rf r)) :=
  lv_at h k (by rw [List.getElem?_map, hk]; rfl)
theorem hl_sub {ls : Array Slot} {nL : Nat} {tl tl' : List (Nat × hT)} (h : hl_has ls nL tl) (ks : List Nat) (hl : ks.filterMap (fun k => tl[k]?) = tl') : hl_has ls nL tl' := by
  refine lv_sub h ks ?_
  subst hl
  unfold lv_pick
  rw [List.map_filterMap]
  congr 1
  funext k
  rw [List.getElem?_map]
theorem hl_filter (i : Nat) : ∀ tl : List (Nat × hT), (tl.map hvq).filter (fun q => !(q.1 == i) && !(q.1 + 1 == i && q.2.category == 2)) = (tl.filter (fun q => !(q.1 == i))).map hvq
  | [] => rfl
  | q :: tl => by
    have h := hl_filter i tl
    have hc : ((hvq q).2.category == 2) = false := by rw [show (hvq q).2.category = 1 from hv_cat q.2]; rfl
    simp only [List.map_cons, List.filter_cons, hc, Bool.and_false, Bool.not_false, Bool.and_true]
    rw [show (hvq q).1 = q.1 from rfl]
    by_cases hq : (!(q.1 == i)) = true
    · rw [if_pos hq, if_pos hq, List.map_cons, ← h]
    · rw [if_neg hq, if_neg hq, ← h]
def hE : Nat → List hT → List (Nat × hT)
  | _, [] => []
  | i, t :: ts => (i, t) :: hE (i + 1) ts
theorem hE_args : ∀ (ts : List hT) (i : Nat), lv_args i (ts.map hv) = (hE i ts).map hvq
  | [], _ => rfl
  | t :: ts, i => by
    have h := hE_args ts (i + 1)
    simp only [List.map_cons, lv_args, hE]
    rw [if_neg (by rw [hv_cat]; decide), h]
    rfl
theorem hE_len : ∀ ts : List hT, (lg_sl (ts.map hv)).length = ts.length
  | [] => rfl
  | t :: ts => by
    have h := hE_len ts
    unfold lg_sl at h ⊢
    simp only [List.map_cons, List.flatMap_cons, List.length_append, List.length_cons, h, hv_cat]
    simp
    omega
theorem hE_entry (ts : List hT) {n : Nat} (h : ts.length ≤ n) : hl_has ((lg_sl (ts.map hv) ++ List.replicate (n - (lg_sl (ts.map hv)).length) Slot.unset).toArray) n (hE 0 ts) := by
  unfold hl_has
  rw [← hE_args]
  exact lv_entry _ (by rw [hE_len]; exact h)
section HL
variable {p : Program} {l : Launch} {e : Env} {R : Room} {s : State} {m : MethodId} {args : Array Value} {below : List Frame} {meth : Method} {c : Code} {H : Heap} {locs : List Loc} {cells slots : Nat} {Q : State → Prop}
variable {cc : ByteArray} {pc : Nat} {ls : Array Slot} {rest : List Value}
theorem h_istore_n (hx : p.tables.exec = Jvm.exec) (hb : c.code = cc) {k : Fin 4} {i nL : Nat} {x : Int32} {tl tl' : List (Nat × hT)} (hdg : decode cc pc = .ok (.istore_n k, 1)) (hi : (k : Nat) = i) (h : hl_has ls nL tl) (hn : i < nL) (hl : (i, .inl x) :: tl.filter (fun q => !(q.1 == i)) = tl')
    (kk : ∀ ls' : Array Slot, hl_has ls' nL tl' → W p l e R s m args below meth c H locs cells slots Q (F0 m (pc + 1) ls' rest)) : W p l e R s m args below meth c H locs cells slots Q (F0 m pc ls (.int x :: rest)) :=
  lv_istore_n (lv' := tl'.map hvq) hx hb hdg hi h hn (by rw [hl_filter, ← hl]; rfl) kk
theorem h_istore (hx : p.tables.exec = Jvm.exec) (hb : c.code = cc) {i nL : Nat} {x : Int32} {tl tl' : List (Nat × hT)} (hdg : decode cc pc = .ok (.istore i, 2)) (h : hl_has ls nL tl) (hn : i < nL) (hl : (i, .inl x) :: tl.filter (fun q => !(q.1 == i)) = tl')
    (kk : ∀ ls' : Array Slot, hl_has ls' nL tl' → W p l e R s m args below meth c H locs cells slots Q (F0 m (pc + 2) ls' rest)) : W p l e R s m args below meth c H locs cells slots Q (F0 m pc ls (.int x :: rest)) :=
  lv_istore (lv' := tl'.map hvq) hx hb hdg h hn (by rw [hl_filter, ← hl]; rfl) kk
theorem h_astore_n (hx : p.tables.exec = Jvm.exec) (hb : c.code = cc) {k : Fin 4} {i nL : Nat} {r : Option Nat} {tl tl' : List (Nat × hT)} (hdg : decode cc pc = .ok (.astore_n k, 1)) (hi : (k : Nat) = i) (h : hl_has ls nL tl) (hn : i < nL) (hl : (i, .inr r) :: tl.filter (fun q => !(q.1 == i)) = tl')
    (kk : ∀ ls' : Array Slot, hl_has ls' nL tl' → W p l e R s m args below meth c H locs cells slots Q (F0 m (pc + 1) ls' rest)) : W p l e R s m args below meth c H locs cells slots Q (F0 m pc ls (va_rf r :: rest)) :=
  hr_astore_n (lv' := tl'.map hvq) hx hb hdg hi h hn (by rw [hl_filter, ← hl]; rfl) kk
theorem h_astore (hx : p.tables.exec = Jvm.exec) (hb : c.code = cc) {i nL : Nat} {r : Option Nat} {tl tl' : List (Nat × hT)} (hdg : decode cc pc = .ok (.astore i, 2)) (h : hl_has ls nL tl) (hn : i < nL) (hl : (i, .inr r) :: tl.filter (fun q => !(q.1 == i)) = tl')
    (kk : ∀ ls' : Array Slot, hl_has ls' nL tl' → W p l e R s m args below meth c H locs cells slots Q (F0 m (pc + 2) ls' rest)) : W p l e R s m args below meth c H locs cells slots Q (F0 m pc ls (va_rf r :: rest)) :=
  hr_astore (lv' := tl'.map hvq) hx hb hdg h hn (by rw [hl_filter, ← hl]; rfl) kk
theorem h_iinc (hx : p.tables.exec = Jvm.exec) (hb : c.code = cc) {i nL k : Nat} {n : Int} {x v : Int32} {tl tl' : List (Nat × hT)} (hdg : decode cc pc = .ok (.iinc i n, 3)) (h : hl_has ls nL tl) (hk : tl[k]? = some (i, .inl x)) (hv1 : x + Int32.ofInt n = v) (hn : i < nL) (hl : (i, .inl v) :: tl.filter (fun q => !(q.1 == i)) = tl')
    (kk : ∀ ls' : Array Slot, hl_has ls' nL tl' → W p l e R s m args below meth c H locs cells slots Q (F0 m (pc + 3) ls' rest)) : W p l e R s m args below meth c H locs cells slots Q (F0 m pc ls rest) :=
  lv_iinc (lv' := tl'.map hvq) hx hb hdg h (k := k) (by rw [List.getElem?_map, hk]; rfl) hv1 hn (by rw [hl_filter, ← hl]; rfl) kk
theorem h_null (hx : p.tables.exec = Jvm.exec) (hb : c.code = cc) (hdg : decode cc pc = .ok (.aconst_null, 1)) (kk : W p l e R s m args below meth c H locs cells slots Q (F0 m (pc + 1) ls (va_rf none :: rest))) : W p l e R s m args below meth c H locs cells slots Q (F0 m pc ls rest) := lv_null hx hb hdg kk
end HL
theorem h_narO {C : String} (r : Option Nat) : narrow (.object C) (va_rf r) = va_rf r := by cases r <;> rfl
theorem h_narA {t : FieldType} (r : Option Nat) : narrow (.array t) (va_rf r) = va_rf r := by cases r <;> rfl
theorem h_fitO {C : String} (r : Option Nat) : fits (.object C) (va_rf r) = true := by cases r <;> rfl
theorem h_fitA {t : FieldType} (r : Option Nat) : fits (.array t) (va_rf r) = true := by cases r <;> rfl
/-- a contract out of a walk of the body -/
theorem h_body {l : Launch} {D : hD} {y : MethodName} {cc : ByteArray} {maxL : Nat} {ret : Option FieldType} {fr lo mc ms : Nat} (ts : List hT) {S S1 : hS} {rv : Option Value} (own : String) (hy : plainName y.cls = true) (ho : y.cls = own) (hn : ts.length ≤ maxL)
    (body : ∀ (p : Program) (e : Env) (s : State) (m : MethodId) (args : Array Value) (below : List Frame) (meth : Method) (c : Code), hCx p m c cc maxL s args own meth ret D → meth.name = y.name → ∀ ls : Array Slot, h_V D (h_A S) s S s.heap [] → hl_has ls maxL (hE 0 ts) →
      W p l e { frames := fr, cells := mc, slots := ms, locals := lo } s m args below meth c s.heap [] 0 0 (MQ below (h_Q D (h_A S) rv S1) args s mc ms (h_A S)) (F0 m 0 ls [])) : hM l D y cc maxL ret fr lo mc ms (ts.map hv) S rv S1 := by
  refine Met.ofW (cc := cc) (maxL := maxL) (ret := ret) hy rfl ?_
  intro p e s m args below meth c s₁ B hml hv1
  obtain ⟨rfl, hP, hK⟩ := hv1
  have hts := atoms_spec (ws := hWy y cc maxL ret) B.pre
  have hown : s.vm.findClass own = some m.cls := by rw [← ho]; exact findClass_of_methodNamed B.named
  have C : hCx p m c cc maxL s (ts.map hv).toArray own meth ret D := ⟨⟨_, _, _, _, B.exec, B.bytes, hml, hown, hts⟩, B.exec, B.bytes, hml, hown, B.returns, B.notSynchronized, hK, fun w hw => hts w (List.mem_cons_of_mem _ hw)⟩
  rw [lg_entry_eq]
  exact body p e s m _ below meth c C (name_of_methodNamed B.named B.method).1 _ (h_V.entry hP) (hE_entry ts hn)
