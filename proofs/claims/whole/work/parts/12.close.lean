section CLOSE0
theorem Met.ofWF {l : Launch} {y : MethodName} {ws ws' : List Cond} {rm : Room} {Pc : Array Value → State → Prop} {Qc : Array Value → State → Outcome → State → Prop} {mc ms : Nat} {free : Addr → Prop} {cc : ByteArray} {maxL : Nat} {ret : Option FieldType}
    (hy : plainFor y = true) (hw : ws = Cond.code y cc maxL ret :: ws')
    (body : ∀ p e s m args below meth c s₁, BodyLoose p l y (headSpec ws rm) cc maxL ret e s m args below meth c s₁ → c.maxLocals = maxL → Pc args s →
      W p l e (headSpec ws rm).room s m args below meth c s.heap [] 0 0 (MQ below Qc args s mc ms free) (entryFrame m args maxL)) : Met l y ws rm Pc Qc mc ms free := by
  refine MetFree.of_bodySF (code := cc) (maxLocals := maxL) (ret := ret) hy ?_ ?_
  · intro args s m h hn
    obtain ⟨meth, c, h1, h2, h3, h4, h5, h6, -, -⟩ := Cond.code_spec hn (atoms_spec (ws := ws) h _ (by rw [hw]; exact List.mem_cons_self))
    exact ⟨meth, c, h1, h2, h3, h4, h5, h6⟩
  · intro p e s m args below meth c s₁ B hml hP _
    have hh0 : s₁.heap = s.heap := by rw [B.state]; rfl
    obtain ⟨t, a1, o, b1, b2, b3⟩ := body p e s m args below meth c s₁ B hml hP s₁ hh0 (Stand.of_body B)
    exact ⟨t, o, a1, b1, b2, ⟨b3.1, b3.2⟩⟩
end CLOSE0
section CLOSE
variable {l : Launch} {N : Nat} {ef : Ef} {G : Geo} {S S' : St} {y : MethodName} {cc : ByteArray} {nL k : Nat} {av : List Value}
theorem x_entry (hy : plainFor y = true) {rt : Option FieldType} (hlen : (lg_sl av).length ≤ nL) {Qc : Array Value → State → Outcome → State → Prop} {free : Addr → Prop} {sz : Nat}
    (body : ∀ (p : Program) (e : Env) (s : State) (m : MethodId) (below : List Frame) (meth : Method) (c : Code), Cx G y.cls cc nL p s m av.toArray c → meth.sig.returnType = rt → meth.locks = false → s.heap.size = sz → ∀ ls : Array Slot, lv_has ls nL (lv_args 0 av) → Hw N ef G (AW N G sz) s.heap S s.heap [] → W p l e (rmK k) s m av.toArray below meth c s.heap [] 0 0 (MQ below Qc av.toArray s 0 0 free) (F0 m 0 ls [])) :
    Met l y (wU y cc nL rt) (rmK k) (va_Pc av (PreW N ef G sz S)) Qc 0 0 free := by
  refine Met.ofWF (cc := cc) (maxL := nL) (ret := rt) hy rfl ?_
  intro p e s m args below meth c s₁ B hml hv
  obtain ⟨rfl, hsz, hP, hK, hD⟩ := hv
  have hts := atoms_spec (ws := wU y cc nL rt) B.pre
  have hl := lv_entry av (n := nL) hlen
  rw [lg_entry_eq]
  refine body p e s m below meth c ⟨B.exec, B.bytes, hml, findClass_of_methodNamed B.named, fun w hw => hts w (List.mem_cons_of_mem _ hw), hK⟩ B.returns B.notSynchronized hsz _ hl ⟨hP, ⟨hD.1, fun j q hq => ?_⟩, va_S.rf, fun q hq => Or.inr (by omega)⟩
  obtain ⟨h1, rfl⟩ := wld_of hq
  exact Or.inl ⟨j, h1, rfl⟩
/-- how a walk of an int method ends -/
def KI (N : Nat) (ef : Ef) (G : Geo) (A : Nat → Prop) (H0 : Heap) (cc : ByteArray) (p : Program) (l : Launch) (e : Env) (k : Nat) (s : State) (m : MethodId) (args : Array Value) (below : List Frame) (meth : Method) (c : Code) (Q : State → Prop) (r : Int32) (S' : St) : Prop := ∀ (pc : Nat) (H : Heap) (locs : List Loc) (ls : Array Slot), decode cc pc = .ok (.ireturn, 1) → Hw N ef G A H0 S' H locs → W p l e (rmK k) s m args below meth c H locs 0 0 Q (F0 m pc ls [.int r])
def KL (N : Nat) (ef : Ef) (G : Geo) (A : Nat → Prop) (H0 : Heap) (cc : ByteArray) (p : Program) (l : Launch) (e : Env) (k : Nat) (s : State) (m : MethodId) (args : Array Value) (below : List Frame) (meth : Method) (c : Code) (Q : State → Prop) (r : Int64) (S' : St) : Prop := ∀ (pc : Nat) (H : Heap) (locs : List Loc) (ls : Array Slot), decode cc pc = .ok (.lreturn, 1) → Hw N ef G A H0 S' H locs → W p l e (rmK k) s m args below meth c H locs 0 0 Q (F0 m pc ls [.long r])
def KV (N : Nat) (ef : Ef) (G : Geo) (A : Nat → Prop) (H0 : Heap) (cc : ByteArray) (p : Program) (l : Launch) (e : Env) (k : Nat) (s : State) (m : MethodId) (args : Array Value) (below : List Frame) (meth : Method) (c : Code) (Q : State → Prop) (S' : St) : Prop := ∀ (pc : Nat) (H : Heap) (locs : List Loc) (ls : Array Slot), decode cc pc = .ok (.return_, 1) → Hw N ef G A H0 S' H locs → W p l e (rmK k) s m args below meth c H locs 0 0 Q (F0 m pc ls [])
def KE (N : Nat) (ef : Ef) (G : Geo) (A : Nat → Prop) (H0 : Heap) (cc : ByteArray) (p : Program) (l : Launch) (e : Env) (k : Nat) (s : State) (m : MethodId) (args : Array Value) (below : List Frame) (meth : Method) (c : Code) (Q : State → Prop) (r : Option Nat) (S' : St) : Prop := ∀ (pc : Nat) (H : Heap) (locs : List Loc) (ls : Array Slot), decode cc pc = .ok (.areturn, 1) → Hw N ef G A H0 S' H locs → W p l e (rmK k) s m args below meth c H locs 0 0 Q (F0 m pc ls [va_re (adr G) r])
theorem post_of {sz : Nat} {s t : State} {H : Heap} {locs : List Loc} (h : Hw N ef G (AW N G sz) s.heap S' H locs) (ht : t.heap = H) : PostW N ef G sz S' t := ⟨by rw [ht]; exact h.1, h.2.1⟩
theorem mI_of (hy : plainFor y = true) (hlen : (lg_sl av).length ≤ nL) {r : Int32}
    (body : ∀ (p : Program) (e : Env) (s : State) (m : MethodId) (below : List Frame) (meth : Method) (c : Code) (A : Nat → Prop) (H0 : Heap) (Q : State → Prop), Cx G y.cls cc nL p s m av.toArray c → KI N ef G A H0 cc p l e k s m av.toArray below meth c Q r S' → ∀ (H : Heap) (locs : List Loc) (ls : Array Slot), Hw N ef G A H0 S H locs → lv_has ls nL (lv_args 0 av) → W p l e (rmK k) s m av.toArray below meth c H locs 0 0 Q (F0 m 0 ls [])) :
    MI N ef G l y cc nL (some .int) k av S r S' := by
  intro sz
  refine x_entry hy hlen (fun p e s m below meth c C hr hlk hz ls hl hw => body p e s m below meth c _ _ _ C (fun pc H locs ls hd h => ?_) _ _ ls hw hl)
  exact W.iret C.1 C.2.1 hr (fun t ht hW => ⟨⟨r, S', rfl, ⟨rfl, rfl⟩, post_of h ht⟩, h.2.2.1.F ht⟩) h.2.2.1.2.2 hd hlk
theorem mZ_of (hy : plainFor y = true) (hlen : (lg_sl av).length ≤ nL) {r : Bool}
    (body : ∀ (p : Program) (e : Env) (s : State) (m : MethodId) (below : List Frame) (meth : Method) (c : Code) (A : Nat → Prop) (H0 : Heap) (Q : State → Prop), Cx G y.cls cc nL p s m av.toArray c → KI N ef G A H0 cc p l e k s m av.toArray below meth c Q (bi r) S' → ∀ (H : Heap) (locs : List Loc) (ls : Array Slot), Hw N ef G A H0 S H locs → lv_has ls nL (lv_args 0 av) → W p l e (rmK k) s m av.toArray below meth c H locs 0 0 Q (F0 m 0 ls [])) :
    MI N ef G l y cc nL (some .boolean) k av S (bi r) S' := by
  intro sz
  refine x_entry hy hlen (fun p e s m below meth c C hr hlk hz ls hl hw => body p e s m below meth c _ _ _ C (fun pc H locs ls hd h => ?_) _ _ ls hw hl)
  exact W.zret C.1 C.2.1 hr (by cases r <;> rfl) (fun t ht hW => ⟨⟨bi r, S', rfl, ⟨rfl, rfl⟩, post_of h ht⟩, h.2.2.1.F ht⟩) h.2.2.1.2.2 hd hlk
theorem mL_of (hy : plainFor y = true) (hlen : (lg_sl av).length ≤ nL) {r : Int64}
    (body : ∀ (p : Program) (e : Env) (s : State) (m : MethodId) (below : List Frame) (meth : Method) (c : Code) (A : Nat → Prop) (H0 : Heap) (Q : State → Prop), Cx G y.cls cc nL p s m av.toArray c → KL N ef G A H0 cc p l e k s m av.toArray below meth c Q r S' → ∀ (H : Heap) (locs : List Loc) (ls : Array Slot), Hw N ef G A H0 S H locs → lv_has ls nL (lv_args 0 av) → W p l e (rmK k) s m av.toArray below meth c H locs 0 0 Q (F0 m 0 ls [])) :
    ML N ef G l y cc nL (some .long) k av S r S' := by
  intro sz
  refine x_entry hy hlen (fun p e s m below meth c C hr hlk hz ls hl hw => body p e s m below meth c _ _ _ C (fun pc H locs ls hd h => ?_) _ _ ls hw hl)
  exact W.lret C.1 C.2.1 hr (fun t ht hW => ⟨⟨r, S', rfl, ⟨rfl, rfl⟩, post_of h ht⟩, h.2.2.1.F ht⟩) h.2.2.1.2.2 hd hlk
theorem mV_of (hy : plainFor y = true) (hlen : (lg_sl av).length ≤ nL)
    (body : ∀ (p : Program) (e : Env) (s : State) (m : MethodId) (below : List Frame) (meth : Method) (c : Code) (A : Nat → Prop) (H0 : Heap) (Q : State → Prop), Cx G y.cls cc nL p s m av.toArray c → KV N ef G A H0 cc p l e k s m av.toArray below meth c Q S' → ∀ (H : Heap) (locs : List Loc) (ls : Array Slot), Hw N ef G A H0 S H locs → lv_has ls nL (lv_args 0 av) → W p l e (rmK k) s m av.toArray below meth c H locs 0 0 Q (F0 m 0 ls [])) :
    MV N ef G l y cc nL none k av S S' := by
  intro sz
  refine x_entry hy hlen (fun p e s m below meth c C hr hlk hz ls hl hw => body p e s m below meth c _ _ _ C (fun pc H locs ls hd h => ?_) _ _ ls hw hl)
  exact W.vret C.1 C.2.1 hr (fun t ht hW => ⟨⟨S', rfl, rfl, post_of h ht⟩, h.2.2.1.F ht⟩) h.2.2.1.2.2 hd hlk
theorem mE_of (hy : plainFor y = true) (hlen : (lg_sl av).length ≤ nL) {r : Option Nat} {Cn : String}
    (body : ∀ (p : Program) (e : Env) (s : State) (m : MethodId) (below : List Frame) (meth : Method) (c : Code) (A : Nat → Prop) (H0 : Heap) (Q : State → Prop), Cx G y.cls cc nL p s m av.toArray c → KE N ef G A H0 cc p l e k s m av.toArray below meth c Q r S' → ∀ (H : Heap) (locs : List Loc) (ls : Array Slot), Hw N ef G A H0 S H locs → lv_has ls nL (lv_args 0 av) → W p l e (rmK k) s m av.toArray below meth c H locs 0 0 Q (F0 m 0 ls [])) :
    ME N ef G l y cc nL (some (.object Cn)) k av S r S' := by
  intro sz
  refine x_entry hy hlen (fun p e s m below meth c C hr hlk hz ls hl hw => body p e s m below meth c _ _ _ C (fun pc H locs ls hd h => ?_) _ _ ls hw hl)
  exact W.aret C.1 C.2.1 hr (Or.inl ⟨_, rfl⟩) (by cases r with | none => exact Or.inl rfl | some a => exact Or.inr ⟨_, rfl⟩) (fun t ht hW => ⟨⟨r, S', rfl, ⟨rfl, rfl⟩, post_of h ht⟩, h.2.2.1.F ht⟩) h.2.2.1.2.2 hd hlk
end CLOSE
/-! the class's world: 37 cells -/
def lenX (k : Nat) : Nat := if k < 16 then 60 else if k < 28 then 5 else if k < 29 then 60 else if k < 31 then 5 else if k < 33 then 3125 else if k < 36 then 8 else 5
def eX : Ef := fun G k r => match k with
  | 0 => .inr (6, [.ref (adr G 1), .ref (adr G 2), .ref (adr G 3), .ref (adr G 4), .ref (adr G 5), .ref (adr G 6), .ref (adr G 21), .int (r 7), .int (r 8)])
  | 1 => .inr (1, [.int (r 0), .ref (adr G 22), .ref (adr G 23), .int (r 3), .ref (adr G 24), .ref (adr G 25), .ref (adr G 26), .ref (adr G 27)])
  | 2 => .inr (5, [.ref (adr G 28), .int (r 1), .int (r 2), .int (r 3)])
  | 3 => .inr (2, [.ref (adr G 29), .ref (adr G 7), .ref (adr G 30), .ref (adr G 31), .ref (adr G 32), .int (r 5), .int (r 6)])
  | 4 => .inr (3, [.int (r 0), .ref (adr G 33), .ref (adr G 34), .ref (adr G 35)])
  | 5 => .inr (0, [.ref (adr G 36), .int (r 1), .int (r 2), .int (r 3)])
  | 6 => .inl (G.2.2.2.1, 4, .inr (.inr (.inr (.inr (fun i => if i < 4 then some (adr G (8 + i)) else none)))))
  | 7 => .inl (G.2.2.2.2, 5, .inr (.inr (.inr (.inr (fun i => if i < 5 then some (adr G (16 + i)) else none)))))
  | k + 8 => if k < 4 then .inr (4, [.int (r 0), .ref (adr G (k + 12)), .int (r 2)]) else .inl (G.2.2.1, lenX (k + 8), .inl r)
abbrev shX (k : Nat) : Prop := 8 ≤ k ∧ k < 12
abbrev arX (k : Nat) : Prop := 12 ≤ k ∧ k < 37
theorem eX_sh {G : Geo} {k : Nat} {r : Nat → Int32} (h : shX k) : eX G k r = .inr (4, [.int (r 0), .ref (adr G (k + 4)), .int (r 2)]) := by
  obtain ⟨j, rfl⟩ : ∃ j, k = j + 8 := ⟨k - 8, by omega⟩
  show (if j < 4 then _ else _) = _
  rw [if_pos (by omega)]
theorem eX_ar {G : Geo} {k : Nat} (h : arX k) : ∀ r, eX G k r = .inl (G.2.2.1, lenX k, .inl r) := by
  intro r
  obtain ⟨j, rfl⟩ : ∃ j, k = j + 8 := ⟨k - 8, by omega⟩
  show (if j < 4 then _ else _) = _
  rw [if_neg (by omega)]
theorem sh_ar {k : Nat} (h : shX k) : arX (k + 4) := ⟨by omega, by omega⟩
theorem sh_len {k : Nat} (h : shX k) : lenX (k + 4) = 60 := by unfold lenX; rw [if_pos (by omega)]
/-! the reference's world: 18 cells -/
def lenM (k : Nat) : Nat := if k < 3 then 4 else if k < 4 then 240 else if k < 11 then 5 else if k < 12 then 15 else if k < 13 then 5 else if k < 15 then 3125 else 8
def eM : Ef := fun G k r => match k with
  | 0 => .inr (7, [.int (r 0), .int (r 1), .ref (adr G 1), .ref (adr G 2), .ref (adr G 3), .int (r 5), .int (r 6), .int (r 7), .ref (adr G 4), .ref (adr G 5), .ref (adr G 6), .ref (adr G 7), .ref (adr G 8), .ref (adr G 9), .int (r 14), .int (r 15), .int (r 16), .ref (adr G 10), .ref (adr G 11), .ref (adr G 12), .int (r 20), .int (r 21), .ref (adr G 13), .ref (adr G 14), .int (r 24), .ref (adr G 15), .ref (adr G 16), .ref (adr G 17)])
  | k + 1 => .inl (G.2.2.1, lenM (k + 1), .inl r)
abbrev HX := Hw 37 eX
abbrev HM := Hw 18 eM
