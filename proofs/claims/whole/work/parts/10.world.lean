/-! the pure state: a row of ints for each cell (an object's int slots, an array's places), by the cell's number -/
abbrev St : Type := Nat → Nat → Int32
def up (S : St) (k j : Nat) (v : Int32) : St := va_up S k (upd (S k) j v)
abbrev Geo : Type := va_G × (Nat → Nat) × ClassId × ClassId × ClassId
abbrev adr (G : Geo) : Nat → Nat := G.2.1
abbrev Ef : Type := Geo → Nat → (Nat → Int32) → va_E
abbrev tysG (G : Geo) : List (ClassId × FieldType) := [(G.2.2.1, .int), (G.2.2.2.1, .object "LampSwitches$Sheet"), (G.2.2.2.2, .array .int)]
def wld (N : Nat) (ef : Ef) (G : Geo) (S : St) : va_W := (List.range N).map (fun k => (adr G k, ef G k (S k)))
theorem wld_get {N : Nat} {ef : Ef} {G : Geo} {S : St} {k : Nat} (h : k < N) : (wld N ef G S)[k]? = some (adr G k, ef G k (S k)) := by
  unfold wld
  rw [List.getElem?_map, List.getElem?_range h]
  rfl
theorem wld_len {N : Nat} {ef : Ef} {G : Geo} {S : St} : (wld N ef G S).length = N := by simp [wld]
theorem wld_of {N : Nat} {ef : Ef} {G : Geo} {S : St} {k : Nat} {q : Nat × va_E} (h : (wld N ef G S)[k]? = some q) : k < N ∧ q = (adr G k, ef G k (S k)) := by
  have h1 : k < N := by
    have := (List.getElem?_eq_some_iff.mp h).1
    rwa [wld_len] at this
  rw [wld_get h1] at h
  exact ⟨h1, (Option.some.inj h).symm⟩
theorem wld_set {N : Nat} {ef : Ef} {G : Geo} {S : St} {k : Nat} {r : Nat → Int32} (h : k < N) : (wld N ef G S).set k (adr G k, ef G k r) = wld N ef G (va_up S k r) := by
  apply List.ext_getElem?
  intro j
  rw [List.getElem?_set]
  by_cases e : k = j
  · subst e
    rw [if_pos rfl, wld_len, if_pos h, wld_get h]
    simp [va_up]
  · rw [if_neg e]
    by_cases hj : j < N
    · rw [wld_get hj, wld_get hj]
      have : va_up S k r j = S j := by simp [va_up, Ne.symm e]
      rw [this]
    · rw [List.getElem?_eq_none (by rw [wld_len]; omega), List.getElem?_eq_none (by rw [wld_len]; omega)]
abbrev wNest1 : Cond := .methodLinkNest RX1 49 yX6_wrapped RX6
abbrev wNest2 : Cond := .methodLinkNest RX5 34 yX6_isIn RX6
def KN (G : Geo) (U : State) : Prop := va_K G.1 vwCl (tysG G) U ∧ va_Nw wNest1 U ∧ va_Nw wNest2 U
theorem KN.calling {G : Geo} {U : State} {g : JFrame} {mk : MethodId} {a : Array Value} (h : KN G U) : KN G (U.calling g mk a) := ⟨va_K.moved (u := U) (U := U.calling g mk a) (Vm.Alike.refl U.vm) h.1, va_Nw.same rfl rfl h.2.1, va_Nw.same rfl rfl h.2.2⟩
theorem KN.warmed {G : Geo} {s U : State} (hW : s.WarmedH U.vm) (h : KN G s) : KN G U := ⟨va_K.moved hW.alike h.1, va_Nw.warmM hW h.2.1, va_Nw.warmM hW h.2.2⟩
/-- the addresses of a world, and all that are new -/
def AW (N : Nat) (G : Geo) (sz : Nat) : Nat → Prop := fun q => (∃ k, k < N ∧ q = adr G k) ∨ sz ≤ q
def PreW (N : Nat) (ef : Ef) (G : Geo) (sz : Nat) (S : St) (U : State) : Prop := U.heap.size = sz ∧ va_P G.1 vwCl (wld N ef G S) U.heap ∧ KN G U ∧ va_D (fun _ => True) (wld N ef G S)
def PostW (N : Nat) (ef : Ef) (G : Geo) (sz : Nat) (u : St) (t : State) : Prop := va_P G.1 vwCl (wld N ef G u) t.heap ∧ va_D (AW N G sz) (wld N ef G u)
def Hw (N : Nat) (ef : Ef) (G : Geo) (A : Nat → Prop) (H0 : Heap) (S : St) (H : Heap) (locs : List Loc) : Prop := va_P G.1 vwCl (wld N ef G S) H ∧ va_D A (wld N ef G S) ∧ va_S A H0 H locs ∧ ∀ q, H0.size ≤ q → A q
def wU (y : MethodName) (cc : ByteArray) (nL : Nat) (rt : Option FieldType) : List Cond := .code y cc nL rt :: gtbl
def rmK (k : Nat) : Room := { frames := k, cells := 0, slots := 0, locals := 100 * k }
/-- what a method's body has of the machine -/
def Cx (G : Geo) (own : String) (cc : ByteArray) (nL : Nat) (p : Program) (s : State) (m : MethodId) (args : Array Value) (c : Code) : Prop :=
  p.tables.exec = Jvm.exec ∧ c.code = cc ∧ c.maxLocals = nL ∧ s.vm.findClass own = some m.cls ∧ (∀ w ∈ gtbl, w.before args s = true) ∧ KN G s
theorem Cx.fix {G : Geo} {own : String} {cc : ByteArray} {nL : Nat} {p : Program} {s : State} {m : MethodId} {args : Array Value} {c : Code} (C : Cx G own cc nL p s m args c) : CallFix p m c cc nL s args gtbl own := ⟨C.1, C.2.1, C.2.2.1, C.2.2.2.1, C.2.2.2.2.1⟩
/-! contracts: the answer and the new state -/
def MI (N : Nat) (ef : Ef) (G : Geo) (l : Launch) (y : MethodName) (cc : ByteArray) (nL : Nat) (rt : Option FieldType) (k : Nat) (av : List Value) (S : St) (r : Int32) (S' : St) : Prop :=
  ∀ sz : Nat, Met l y (wU y cc nL rt) (rmK k) (va_Pc av (PreW N ef G sz S)) (va_Qi (fun (r' : Int32) (u : St) => r' = r ∧ u = S') (PostW N ef G sz) (AW N G sz)) 0 0 (AW N G sz)
def ML (N : Nat) (ef : Ef) (G : Geo) (l : Launch) (y : MethodName) (cc : ByteArray) (nL : Nat) (rt : Option FieldType) (k : Nat) (av : List Value) (S : St) (r : Int64) (S' : St) : Prop :=
  ∀ sz : Nat, Met l y (wU y cc nL rt) (rmK k) (va_Pc av (PreW N ef G sz S)) (va_Ql (fun (r' : Int64) (u : St) => r' = r ∧ u = S') (PostW N ef G sz) (AW N G sz)) 0 0 (AW N G sz)
def MV (N : Nat) (ef : Ef) (G : Geo) (l : Launch) (y : MethodName) (cc : ByteArray) (nL : Nat) (rt : Option FieldType) (k : Nat) (av : List Value) (S : St) (S' : St) : Prop :=
  ∀ sz : Nat, Met l y (wU y cc nL rt) (rmK k) (va_Pc av (PreW N ef G sz S)) (va_Qv (fun (u : St) => u = S') (PostW N ef G sz) (AW N G sz)) 0 0 (AW N G sz)
def ME (N : Nat) (ef : Ef) (G : Geo) (l : Launch) (y : MethodName) (cc : ByteArray) (nL : Nat) (rt : Option FieldType) (k : Nat) (av : List Value) (S : St) (r : Option Nat) (S' : St) : Prop :=
  ∀ sz : Nat, Met l y (wU y cc nL rt) (rmK k) (va_Pc av (PreW N ef G sz S)) (va_Qe (adr G) (fun (r' : Option Nat) (u : St) => r' = r ∧ u = S') (PostW N ef G sz) (AW N G sz)) 0 0 (AW N G sz)
/-! loops and checks of the pure functions -/
def BIG : Nat := 10000
def iter {σ τ : Type} (it : σ → Option (σ ⊕ τ)) : Nat → σ → Option τ
  | 0, _ => none
  | n + 1, s => match it s with
    | none => none
    | some (.inl s') => iter it n s'
    | some (.inr t) => some t
theorem iter_W {σ τ : Type} {it : σ → Option (σ ⊕ τ)} {P : σ → Prop} {K : τ → Prop} (h : ∀ s o, it s = some o → (∀ s', o = .inl s' → P s') → (∀ t, o = .inr t → K t) → P s) : ∀ (n : Nat) (s : σ) (t : τ), iter it n s = some t → K t → P s := by
  intro n
  induction n with
  | zero => intro s t h1; simp [iter] at h1
  | succ n ih =>
    intro s t h1 hk
    cases hit : it s with
    | none => simp [iter, hit] at h1
    | some o =>
      cases o with
      | inl s' =>
        simp only [iter, hit] at h1
        exact h s _ hit (fun s2 e => by cases e; exact ih s' t h1 hk) (fun t2 e => by cases e)
      | inr t' =>
        simp only [iter, hit] at h1
        cases h1
        exact h s _ hit (fun s2 e => by cases e) (fun t2 e => by cases e; exact hk)
def ck {α : Type} (c : Prop) [Decidable c] (x : Option α) : Option α := if c then x else none
theorem ck_some {α : Type} {c : Prop} [Decidable c] {x : Option α} {r : α} (h : ck c x = some r) : c ∧ x = some r := by
  unfold ck at h
  by_cases hc : c
  · rw [if_pos hc] at h; exact ⟨hc, h⟩
  · rw [if_neg hc] at h; cases h
def bd {α β : Type} (o : Option α) (k : α → Option β) : Option β := match o with
  | none => none
  | some a => k a
theorem bd_some {α β : Type} {o : Option α} {k : α → Option β} {r : β} (h : bd o k = some r) : ∃ a, o = some a ∧ k a = some r := by
  cases o with
  | none => cases h
  | some a => exact ⟨a, rfl, h⟩
theorem it_t {α : Type} {c : Prop} [Decidable c] {a b : Option α} {r : α} (hc : c) (h : (if c then a else b) = some r) : a = some r := by rw [if_pos hc] at h; exact h
theorem it_f {α : Type} {c : Prop} [Decidable c] {a b : Option α} {r : α} (hc : ¬ c) (h : (if c then a else b) = some r) : b = some r := by rw [if_neg hc] at h; exact h
def bi : Bool → Int32
  | true => 1
  | false => 0
abbrev okx (i : Int32) (n : Nat) : Prop := 0 ≤ i.toInt ∧ i.toInt < n
theorem okx_in {i : Int32} {n : Nat} (h : okx i n) : vp_in i n := vp_in_iff.mpr h
abbrev ix (i : Int32) : Nat := i.toNatClampNeg
