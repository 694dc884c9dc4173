/-! the words of every method here: its own code, and every good word of the tables; the odd words (nest links, abstract methods, arrays of objects) apart -/
def hWs : List Cond := lw_tbl.filter goodWord
def hWy (y : MethodName) (cc : ByteArray) (n : Nat) (ret : Option FieldType) : List Cond := Cond.code y cc n ret :: hWs
theorem hWs_mem {w : Cond} (i : Nat) (h : lw_tbl[i]? = some w) (g : goodWord w = true) : w ∈ hWs := List.mem_filter.mpr ⟨List.mem_of_getElem? h, g⟩
theorem hWs_good {w : Cond} (h : w ∈ hWs) : goodWord w = true := (List.mem_filter.mp h).2
theorem hWy_good {y0 y : MethodName} {c0 cc : ByteArray} {n0 n : Nat} {r0 ret : Option FieldType} (h : Cond.code y cc n ret ∈ hWs) : GoodIn (hWy y0 c0 n0 r0) (hWy y cc n ret) := by
  intro w hw
  rcases List.mem_cons.mp hw with rfl | hw
  · exact ⟨List.mem_cons_of_mem _ h, good_of_word (hWs_good h)⟩
  · exact ⟨List.mem_cons_of_mem _ hw, good_of_word (hWs_good hw)⟩
def hOdd : Cond → Bool
  | .fieldLinkNest _ _ _ _ _ _ => true
  | .methodLinkNest _ _ _ _ => true
  | .declares _ => true
  | .arrayOver (.object _) => true
  | _ => false
def hN (s : State) : Prop := ∀ w ∈ lw_tbl, hOdd w = true → va_Nw w s
theorem hN.warm {s U : State} (hW : s.WarmedH U.vm) (h : hN s) : hN U := by
  intro w hw ho
  have h1 := h w hw ho
  unfold hOdd at ho
  split at ho
  · exact va_Nw.warmF hW h1
  · exact va_Nw.warmM hW h1
  · exact va_Nw.warmD hW h1
  · exact va_AO.moved hW.alike h1
  · cases ho
theorem hN_mem {w : Cond} {s : State} (h : hN s) (i : Nat) (hi : lw_tbl[i]? = some w) (ho : hOdd w = true) : va_Nw w s := h w (List.mem_of_getElem? hi) ho
/-! the world: a cell is (kind, length, contents); kinds 0 .. 9 the classes of vwCl, 10 int[], 11 boolean[], 12 Job[]; a world is (cells by address, heap's size) -/
abbrev hC : Type := Nat × Nat × (Nat → Value)
abbrev hS : Type := (Nat → Option hC) × Nat
abbrev hD : Type := va_G × ClassId × ClassId × ClassId
def h_tys (D : hD) : List (ClassId × FieldType) := [(D.2.1, .int), (D.2.2.1, .boolean), (D.2.2.2, .object RX4)]
def h_K (D : hD) (s : State) : Prop := va_K D.1 vwCl (h_tys D) s ∧ hN s
theorem h_K.warm {D : hD} {s U : State} (hW : s.WarmedH U.vm) (h : h_K D s) : h_K D U := ⟨va_K.moved hW.alike h.1, h.2.warm hW⟩
theorem h_K.call {D : hD} {U : State} {g : JFrame} {mk : MethodId} {a : Array Value} (h : h_K D U) : h_K D (U.calling g mk a) := h_K.warm (U := U.calling g mk a) (State.WarmedH.refl U) h
def h_at (D : hD) (a : Nat) (c : hC) (H : Heap) : Prop :=
  (∃ r : vw_C, vwCl[c.1]? = some r ∧ t_OB a (D.1.1 c.1) r.2.2 (D.1.2 c.1) H c.2.2) ∨ (∃ q : ClassId × FieldType, 10 ≤ c.1 ∧ (h_tys D)[c.1 - 10]? = some q ∧ H[a]? = some (arrV q.1 c.2.1 c.2.2))
theorem h_at.kept {D : hD} {a : Nat} {c : hC} {H H1 : Heap} (h : h_at D a c H) (hq : H1[a]? = H[a]?) : h_at D a c H1 := by
  rcases h with ⟨r, h1, h2⟩ | ⟨q, h0, h1, h2⟩
  · exact Or.inl ⟨r, h1, h2.kept hq⟩
  · exact Or.inr ⟨q, h0, h1, by rw [hq]; exact h2⟩
theorem h_at.lt {D : hD} {a : Nat} {c : hC} {H : Heap} (h : h_at D a c H) : a < H.size := by
  rcases h with ⟨r, h1, cell, h2, -⟩ | ⟨q, h0, h1, h2⟩
  · exact (Array.getElem?_eq_some_iff.mp h2).1
  · exact (Array.getElem?_eq_some_iff.mp h2).1
theorem hCl_lt {k : Nat} {r : vw_C} (h : vwCl[k]? = some r) : k < 10 := (List.getElem?_eq_some_iff.mp h).1
theorem h_at.obj {D : hD} {a k : Nat} {n : Nat} {V : Nat → Value} {H : Heap} (h : h_at D a (k, n, V) H) {r : vw_C} (hr : vwCl[k]? = some r) : t_OB a (D.1.1 k) r.2.2 (D.1.2 k) H V := by
  rcases h with ⟨r', h1, h2⟩ | ⟨q, h0, h1, h2⟩
  · cases hr.symm.trans h1
    exact h2
  · have := hCl_lt hr
    exact absurd h0 (by show ¬ 10 ≤ k; omega)
theorem h_at.arr {D : hD} {a k n : Nat} {V : Nat → Value} {H : Heap} (h : h_at D a (k, n, V) H) {q : ClassId × FieldType} (hk : 10 ≤ k) (hq : (h_tys D)[k - 10]? = some q) : H[a]? = some (arrV q.1 n V) := by
  rcases h with ⟨r', h1, h2⟩ | ⟨q', h0, h1, h2⟩
  · have := hCl_lt h1
    exact absurd hk (by show ¬ 10 ≤ k; have : k < 10 := this; omega)
  · cases hq.symm.trans h1
    exact h2
def h_P (D : hD) (S : hS) (H : Heap) : Prop := H.size = S.2 ∧ ∀ (a : Nat) (c : hC), S.1 a = some c → h_at D a c H
def h_A (S : hS) : Nat → Prop := fun q => S.1 q ≠ none ∨ S.2 ≤ q
def h_V (D : hD) (A : Nat → Prop) (s : State) (S : hS) (H : Heap) (locs : List Loc) : Prop := h_P D S H ∧ (∀ q, S.1 q ≠ none → A q) ∧ va_S A s.heap H locs ∧ (∀ q, s.heap.size ≤ q → A q)
def hset (S : hS) (a : Nat) (c : hC) : hS := (fun q => if q = a then some c else S.1 q, S.2)
def hpush (S : hS) (c : hC) : hS := (fun q => if q = S.2 then some c else S.1 q, S.2 + 1)
theorem h_V.set {D : hD} {A : Nat → Prop} {s : State} {S : hS} {H H1 : Heap} {locs : List Loc} {a k : Nat} {c c' : hC} (h : h_V D A s S H locs) (ha : S.1 a = some c) (h1 : h_at D a c' H1) (hz : H1.size = H.size) (oq : ∀ q, q ≠ a → H1[q]? = H[q]?) : h_V D A s (hset S a c') H1 (locs ++ [⟨a, k⟩]) := by
  obtain ⟨⟨p1, p2⟩, hd, hS, hA⟩ := h
  refine ⟨⟨by rw [hz]; exact p1, fun b cb hb => ?_⟩, fun q hq => ?_, hS.put hz oq (hd a (by rw [ha]; exact fun z => by cases z)), hA⟩
  · by_cases e : b = a
    · subst e
      simp [hset] at hb
      subst hb
      exact h1
    · simp [hset, e] at hb
      exact (p2 b cb hb).kept (oq b e)
  · by_cases e : q = a
    · subst e
      exact hd q (by rw [ha]; exact fun z => by cases z)
    · simp [hset, e] at hq
      exact hd q hq
theorem h_V.push {D : hD} {A : Nat → Prop} {s : State} {S : hS} {H H1 : Heap} {locs : List Loc} {c' : hC} (h : h_V D A s S H locs) (h1 : h_at D S.2 c' H1) (hz : H1.size = H.size + 1) (oq : ∀ q, q < H.size → H1[q]? = H[q]?) : h_V D A s (hpush S c') H1 locs := by
  obtain ⟨⟨p1, p2⟩, hd, hS, hA⟩ := h
  refine ⟨⟨by rw [hz, p1]; rfl, fun b cb hb => ?_⟩, fun q hq => ?_, ⟨Nat.le_trans hS.1 (by omega), fun q h1 h2 => (oq q (Nat.lt_of_lt_of_le h1 hS.1)).trans (hS.2.1 q h1 h2), hS.2.2⟩, hA⟩
  · by_cases e : b = S.2
    · subst e
      simp [hpush] at hb
      subst hb
      exact h1
    · simp [hpush, e] at hb
      exact (p2 b cb hb).kept (oq b ((p2 b cb hb).lt))
  · by_cases e : q = S.2
    · subst e
      exact hA _ (by rw [← p1]; exact hS.1)
    · simp [hpush, e] at hq
      exact hd q hq
theorem h_V.A {D : hD} {A : Nat → Prop} {s : State} {S : hS} {H : Heap} {locs : List Loc} (h : h_V D A s S H locs) : ∀ q, h_A S q → A q := by
  intro q hq
  rcases hq with hq | hq
  · exact h.2.1 q hq
  · exact h.2.2.2 q (Nat.le_trans h.2.2.1.1 (by rw [h.1.1]; exact hq))
/-! reads and writes of a world: none where the machine would throw (or a place isn't what it should be) -/
def vI : Value → Option Int32
  | .int x => some x
  | _ => none
def vR : Value → Option (Option Nat)
  | .null => some none
  | .ref a => some (some a)
  | _ => none
theorem vI_inv {v : Value} {x : Int32} (h : vI v = some x) : v = .int x := by
  cases v <;> simp [vI] at h
  subst h; rfl
theorem vR_inv {v : Value} {x : Option Nat} (h : vR v = some x) : v = va_rf x := by
  cases v <;> simp [vR] at h <;> subst h <;> rfl
/-- the cell at a reference, of a kind -/
def hc (S : hS) (k : Nat) (r : Option Nat) : Option (Nat × Nat × (Nat → Value)) := r.bind fun a => (S.1 a).bind fun c => if c.1 = k then some (a, c.2) else none
theorem hc_inv {S : hS} {k : Nat} {r : Option Nat} {a n : Nat} {V : Nat → Value} (h : hc S k r = some (a, n, V)) : r = some a ∧ S.1 a = some (k, n, V) := by
  unfold hc at h
  cases r with
  | none => cases h
  | some b =>
    simp only [Option.bind_some] at h
    cases hb : S.1 b with
    | none => rw [hb] at h; cases h
    | some c =>
      obtain ⟨c1, n', V'⟩ := c
      rw [hb] at h
      simp only [Option.bind_some] at h
      by_cases hk : c1 = k
      · rw [if_pos hk] at h
        cases h
        subst hk
        exact ⟨rfl, hb⟩
      · rw [if_neg hk] at h; cases h
def gI (S : hS) (k f : Nat) (r : Option Nat) : Option Int32 := (hc S k r).bind fun c => vI (c.2.2 f)
def gR (S : hS) (k f : Nat) (r : Option Nat) : Option (Option Nat) := (hc S k r).bind fun c => vR (c.2.2 f)
def pV (S : hS) (k f : Nat) (r : Option Nat) (v : Value) : Option hS := (hc S k r).bind fun c => some (hset S c.1 (k, c.2.1, updV c.2.2 f v))
def rcv (S : hS) (k : Nat) (r : Option Nat) : Option Nat := (hc S k r).bind fun c => some c.1
/-- the kind of a way of sorting -/
def hk4 (S : hS) (r : Option Nat) : Nat := match r with
  | none => 99
  | some a => match S.1 a with
    | none => 99
    | some c => if c.1 = 2 ∨ c.1 = 3 ∨ c.1 = 5 ∨ c.1 = 6 then c.1 else 99
def zz (x : Int32) : Option Int32 := if x = 0 ∨ x = 1 then some x else none
def aI (S : hS) (k : Nat) (r : Option Nat) (i : Int32) : Option Int32 := (hc S k r).bind fun c => if i < 0 ∨ c.2.1 ≤ i.toNatClampNeg then none else vI (c.2.2 i.toNatClampNeg)
def aR (S : hS) (r : Option Nat) (i : Int32) : Option (Option Nat) := (hc S 12 r).bind fun c => if i < 0 ∨ c.2.1 ≤ i.toNatClampNeg then none else vR (c.2.2 i.toNatClampNeg)
def aL (S : hS) (k : Nat) (r : Option Nat) : Option Int32 := (hc S k r).bind fun c => some (Int32.ofNat c.2.1)
def sV (S : hS) (k : Nat) (r : Option Nat) (i : Int32) (v : Value) : Option hS := (hc S k r).bind fun c => if i < 0 ∨ c.2.1 ≤ i.toNatClampNeg then none else some (hset S c.1 (k, c.2.1, updV c.2.2 i.toNatClampNeg v))
def sR (S : hS) (r : Option Nat) (i : Int32) (v : Option Nat) : Option hS := if v = none then sV S 12 r i .null else (rcv S 4 v).bind fun b => sV S 12 r i (.ref b)
def aC (S : hS) (r0 : Option Nat) (sp : Int32) (r1 : Option Nat) (dp n : Int32) : Option hS :=
  (hc S 10 r0).bind fun c0 => (hc S 10 r1).bind fun c1 => if sp < 0 ∨ dp < 0 ∨ n < 0 ∨ c0.2.1 < sp.toNatClampNeg + n.toNatClampNeg ∨ c1.2.1 < dp.toNatClampNeg + n.toNatClampNeg then none
    else if ∀ i, i < n.toNatClampNeg → (vI (c0.2.2 (sp.toNatClampNeg + i))).isSome = true then some (hset S c1.1 (10, c1.2.1, va_cpy c0.2.2 c1.2.2 sp.toNatClampNeg dp.toNatClampNeg n.toNatClampNeg)) else none
def hdf (k : Nat) : Nat → Value := match k with
  | 0 => fun j => defaultValue (tyX0 j)
  | 1 => fun j => defaultValue (tyX1 j)
  | 2 => fun j => defaultValue (tyX2 j)
  | 3 => fun j => defaultValue (tyX3 j)
  | 4 => fun j => defaultValue (tyX4 j)
  | 5 => fun j => defaultValue (tyX5 j)
  | 6 => fun j => defaultValue (tyX6 j)
  | 7 => fun j => defaultValue (tyX7 j)
  | 8 => fun j => defaultValue (tyX9 j)
  | _ => fun j => defaultValue (tyX10 j)
def hNf (k : Nat) : Nat := match k with
  | 0 => 2
  | 1 => 3
  | 2 => 7
  | 3 => 9
  | 4 => 11
  | 5 => 12
  | 6 => 10
  | 7 => 1
  | 8 => 6
  | _ => 32
def nO (S : hS) (k : Nat) : hS := hpush S (k, hNf k, hdf k)
def nA (S : hS) (k : Nat) (B : Nat) (n : Int32) (v : Value) : Option (Option Nat × hS) := if n < 0 ∨ B < n.toNatClampNeg then none else some (some S.2, hpush S (k, n.toNatClampNeg, fun _ => v))
def imx (x y : Int32) : Int32 := if x < y then y else x
def imn (x y : Int32) : Int32 := if y < x then y else x
theorem hbind {α β : Type} {x : Option α} {g : α → Option β} {z : β} (h : x.bind g = some z) : ∃ y, x = some y ∧ g y = some z := by
  cases x with
  | none => cases h
  | some y => exact ⟨y, rfl, h⟩
