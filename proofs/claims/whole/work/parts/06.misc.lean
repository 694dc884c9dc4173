def bn2 {α β γ : Type} (x : Option (α × β)) (g : α → β → Option γ) : Option γ := match x with
  | none => none
  | some q => g q.1 q.2
theorem hbn2 {α β γ : Type} {x : Option (α × β)} {g : α → β → Option γ} {z : γ} (h : bn2 x g = some z) : ∃ a b, x = some (a, b) ∧ g a b = some z := by
  cases x with
  | none => cases h
  | some q => exact ⟨q.1, q.2, rfl, h⟩
def gI4 (S : hS) (k : Nat) (r : Option Nat) : Option Int32 := if hk4 S r = 99 then none else gI S (hk4 S r) k r
def gR4 (S : hS) (k : Nat) (r : Option Nat) : Option (Option Nat) := if hk4 S r = 99 then none else gR S (hk4 S r) k r
def pV4 (S : hS) (k : Nat) (r : Option Nat) (v : Value) : Option hS := if hk4 S r = 99 then none else pV S (hk4 S r) k r v
theorem hk4_cases (S : hS) (r : Option Nat) : hk4 S r = 2 ∨ hk4 S r = 3 ∨ hk4 S r = 5 ∨ hk4 S r = 6 ∨ hk4 S r = 99 := by
  unfold hk4
  cases r with
  | none => simp
  | some a =>
    simp only
    cases S.1 a with
    | none => simp
    | some c =>
      simp only
      split
      · rename_i h; omega
      · simp
/-- what stands at every point of a method: the machine, its code, the tables -/
def hCx (p : Program) (m : MethodId) (c : Code) (cc : ByteArray) (nL : Nat) (s : State) (args : Array Value) (own : String) (meth : Method) (ret : Option FieldType) (D : hD) : Prop := hFix p m c cc nL s args own ∧ p.tables.exec = Jvm.exec ∧ c.code = cc ∧ c.maxLocals = nL ∧ s.vm.findClass own = some m.cls ∧ meth.sig.returnType = ret ∧ meth.locks = false ∧ h_K D s ∧ (∀ w ∈ hWs, w.before args s = true)
section HM
variable {p : Program} {l : Launch} {e : Env} {R : Room} {s : State} {m : MethodId} {args : Array Value} {below : List Frame} {meth : Method} {c : Code} {H : Heap} {locs : List Loc} {cells slots : Nat} {Q : State → Prop}
variable {cc : ByteArray} {pc : Nat} {ls : Array Slot} {rest : List Value} {D : hD} {A : Nat → Prop} {S : hS}
theorem h_gI4 (hx : p.tables.exec = Jvm.exec) (hb : c.code = cc) {own : String} {index k : Nat} {r : Option Nat} {x : Int32} (hown : s.vm.findClass own = some m.cls) (hV : h_V D A s S H locs) (hg : gI4 S k r = some x) (hf : ∀ ci, (ci = 2 ∨ ci = 3 ∨ ci = 5 ∨ ci = 6) → h_fld s args own index ci k D) (hdg : decode cc pc = .ok (.getfield index, 3))
    (kk : W p l e R s m args below meth c H locs cells slots Q (F0 m (pc + 3) ls (.int x :: rest))) : W p l e R s m args below meth c H locs cells slots Q (F0 m pc ls (va_rf r :: rest)) := by
  unfold gI4 at hg
  split at hg
  · cases hg
  · rename_i hne
    exact h_gI hx hb hown hV hg (hf _ (by have := hk4_cases S r; omega)) hdg kk
theorem h_gR4 (hx : p.tables.exec = Jvm.exec) (hb : c.code = cc) {own : String} {index k : Nat} {r x : Option Nat} (hown : s.vm.findClass own = some m.cls) (hV : h_V D A s S H locs) (hg : gR4 S k r = some x) (hf : ∀ ci, (ci = 2 ∨ ci = 3 ∨ ci = 5 ∨ ci = 6) → h_fld s args own index ci k D) (hdg : decode cc pc = .ok (.getfield index, 3))
    (kk : W p l e R s m args below meth c H locs cells slots Q (F0 m (pc + 3) ls (va_rf x :: rest))) : W p l e R s m args below meth c H locs cells slots Q (F0 m pc ls (va_rf r :: rest)) := by
  unfold gR4 at hg
  split at hg
  · cases hg
  · rename_i hne
    exact h_gR hx hb hown hV hg (hf _ (by have := hk4_cases S r; omega)) hdg kk
theorem h_put4 (hx : p.tables.exec = Jvm.exec) (hb : c.code = cc) {own : String} {index k : Nat} {r : Option Nat} {v : Value} {S1 : hS} {ty : FieldType} (hown : s.vm.findClass own = some m.cls) (hV : h_V D A s S H locs) (hg : pV4 S k r v = some S1) (hf : ∀ ci, (ci = 2 ∨ ci = 3 ∨ ci = 5 ∨ ci = 6) → h_fpt s args m meth own index ci k ty D) (hn : narrow ty v = v) (hfit : fits ty v = true) (hdg : decode cc pc = .ok (.putfield index, 3))
    (kk : ∀ (H1 : Heap) (locs1 : List Loc), h_V D A s S1 H1 locs1 → W p l e R s m args below meth c H1 locs1 cells slots Q (F0 m (pc + 3) ls rest)) : W p l e R s m args below meth c H locs cells slots Q (F0 m pc ls (v :: va_rf r :: rest)) := by
  unfold pV4 at hg
  split at hg
  · cases hg
  · rename_i hne
    exact h_put hx hb hown hV hg (hf _ (by have := hk4_cases S r; omega)) hn hfit hdg kk
theorem h_mmax (hx : p.tables.exec = Jvm.exec) (hb : c.code = cc) (hml : c.maxLocals = ls.size) {own : String} {index : Nat} (hown : s.vm.findClass own = some m.cls) (hts : ∀ w ∈ hWs, w.before args s = true) (w1 : Cond.methodLink own index Lib.Math.max.name ∈ hWs) (w2 : Cond.static Lib.Math.max.name ∈ hWs) (w3 : Cond.initialized "java/lang/Math" ∈ hWs) (w4 : Cond.code Lib.Math.max.name Lib.Math.max.code 2 (some .int) ∈ hWs)
    (hframes : 1 ≤ R.frames) (hlocals : (rest.map fun v => v.category).sum + 13 ≤ R.locals) (hc : cells ≤ R.cells) (hs : slots ≤ R.slots) {x y : Int32} (hdg : decode cc pc = .ok (.invokestatic index, 3))
    (kk : W p l e R s m args below meth c H locs cells slots Q (F0 m (pc + 3) ls (.int (imx x y) :: rest))) : W p l e R s m args below meth c H locs cells slots Q (F0 m pc ls (.int y :: .int x :: rest)) :=
  va_mmax hx hb hml hown (hts _ w1) (hts _ w2) (hts _ w3) (hts _ w4) hframes hlocals hc hs hdg kk
theorem h_mmin (hx : p.tables.exec = Jvm.exec) (hb : c.code = cc) (hml : c.maxLocals = ls.size) {own : String} {index : Nat} (hown : s.vm.findClass own = some m.cls) (hts : ∀ w ∈ hWs, w.before args s = true) (w1 : Cond.methodLink own index Lib.Math.min.name ∈ hWs) (w2 : Cond.static Lib.Math.min.name ∈ hWs) (w3 : Cond.initialized "java/lang/Math" ∈ hWs) (w4 : Cond.code Lib.Math.min.name Lib.Math.min.code 2 (some .int) ∈ hWs)
    (hframes : 1 ≤ R.frames) (hlocals : (rest.map fun v => v.category).sum + 13 ≤ R.locals) (hc : cells ≤ R.cells) (hs : slots ≤ R.slots) {x y : Int32} (hdg : decode cc pc = .ok (.invokestatic index, 3))
    (kk : W p l e R s m args below meth c H locs cells slots Q (F0 m (pc + 3) ls (.int (imn x y) :: rest))) : W p l e R s m args below meth c H locs cells slots Q (F0 m pc ls (.int y :: .int x :: rest)) :=
  va_mmin hx hb hml hown (hts _ w1) (hts _ w2) (hts _ w3) (hts _ w4) hframes hlocals hc hs hdg kk
theorem h_oinit (hx : p.tables.exec = Jvm.exec) (hb : c.code = cc) (hml : ls.size = c.maxLocals) {own : String} {index a : Nat} (hown : s.vm.findClass own = some m.cls) (hts : ∀ w ∈ hWs, w.before args s = true) (w1 : Cond.methodLink own index objectInit ∈ hWs) (w2 : Cond.instanceMethod objectInit ∈ hWs) (w3 : Cond.code objectInit ⟨#[0xb1]⟩ 1 none ∈ hWs)
    (hframes : 1 ≤ R.frames) (hlocals : (rest.map fun v => v.category).sum + 12 ≤ R.locals) (hdg : decode cc pc = .ok (.invokespecial index, 3))
    (kk : W p l e R s m args below meth c H locs cells slots Q (F0 m (pc + 3) ls rest)) : W p l e R s m args below meth c H locs cells slots Q (F0 m pc ls (va_rf (some a) :: rest)) :=
  W.objInit hx hb hown (hts _ w1) (hts _ w2) (hts _ w3) rfl hml rfl hdg hframes (by show 2 * 0 + _ + 12 ≤ _; omega) kk
theorem h_tout {x : Int32} {lo hi : Int} (h : ∀ k : Int, lo ≤ k → k ≤ hi → x.toInt ≠ k) : x.toInt < lo ∨ hi < x.toInt := by
  by_cases h1 : x.toInt < lo
  · exact Or.inl h1
  · by_cases h2 : hi < x.toInt
    · exact Or.inr h2
    · exact absurd rfl (h x.toInt (by omega) (by omega))
end HM
