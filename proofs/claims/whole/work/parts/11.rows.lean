section ROWS
variable {p : Program} {l : Launch} {e : Env} {R : Room} {s : State} {m : MethodId} {args : Array Value} {below : List Frame} {meth : Method} {c : Code} {H : Heap} {locs : List Loc} {cells slots : Nat} {Q : State → Prop}
variable {cc : ByteArray} {pc nL : Nat} {ls : Array Slot} {rest : List Value} {N : Nat} {ef : Ef} {G : Geo} {A : Nat → Prop} {H0 : Heap} {S : St} {own : String}
theorem x_get (C : Cx G own cc nL p s m args c) (h : Hw N ef G A H0 S H locs) {Cn : String} {T : u_T} {n ci index : Nat} (hin : ∀ w ∈ u_ws Cn T n, w ∈ gtbl) {k : Nat} (hk : k < N) {fs : List Value} (he : ef G k (S k) = .inr (ci, fs)) (hc : vwCl[ci]? = some (Cn, T, n)) (j : Nat) (hj : j < n) (hlink : Cond.fieldLink own index (T j).1 (T j).2.1 (T j).2.2.1 ∈ gtbl) {v : Value} (hv : fs[j]? = some v) (hdg : decode cc pc = .ok (.getfield index, 3))
    (kk : W p l e R s m args below meth c H locs cells slots Q (F0 m (pc + 3) ls (v :: rest))) : W p l e R s m args below meth c H locs cells slots Q (F0 m pc ls (.ref (adr G k) :: rest)) :=
  va_get (D := G.1) C.1 C.2.1 C.2.2.2.2.1 hin C.2.2.2.1 C.2.2.2.2.2.1 h.1 k ((wld_get hk).trans (by rw [he])) hc j hj (C.2.2.2.2.1 _ hlink) (fun _ h9 => h9) hv hdg kk
theorem x_put (C : Cx G own cc nL p s m args c) (h : Hw N ef G A H0 S H locs) {Cn : String} {T : u_T} {n ci index : Nat} (hin : ∀ w ∈ u_ws Cn T n, w ∈ gtbl) (ty0 : Nat → FieldType) (hty : ∀ k, k < n → parseFieldDescriptor (T k).2.2.1 = some (ty0 k)) (hnm : ∀ a, a < n → ∀ b, b < n → a ≠ b → (T a).2.1 ≠ (T b).2.1) {k : Nat} (hk : k < N) {fs : List Value} (he : ef G k (S k) = .inr (ci, fs)) (hc : vwCl[ci]? = some (Cn, T, n)) (j : Nat) (hj : j < n) (hlink : Cond.fieldLink own index (T j).1 (T j).2.1 (T j).2.2.1 ∈ gtbl) (hfin : (T j).2.2.2 = false) (hd : parseFieldDescriptor (T j).2.2.1 = some .int) {v : Int32} (hl : j < fs.length) (hs : ef G k (upd (S k) j v) = .inr (ci, fs.set j (.int v))) (hdg : decode cc pc = .ok (.putfield index, 3))
    (kk : ∀ (H1 : Heap) (locs1 : List Loc), Hw N ef G A H0 (up S k j v) H1 locs1 → W p l e R s m args below meth c H1 locs1 cells slots Q (F0 m (pc + 3) ls rest)) : W p l e R s m args below meth c H locs cells slots Q (F0 m pc ls (.int v :: .ref (adr G k) :: rest)) :=
  va_put (D := G.1) (v := .int v) (ty := .int) C.1 C.2.1 C.2.2.2.2.1 hin ty0 hty hnm C.2.2.2.1 C.2.2.2.2.2.1 h.1 h.2.1 h.2.2.1 k ((wld_get hk).trans (by rw [he])) hc j hj (C.2.2.2.2.1 _ hlink) (fun _ h9 => h9) hfin hd rfl rfl hl hdg (fun H1 locs1 hP hD hS => kk H1 locs1 ⟨by rw [← hs, wld_set hk] at hP; exact hP, by rw [← hs, wld_set hk] at hD; exact hD, hS, h.2.2.2⟩)
theorem x_iald (C : Cx G own cc nL p s m args c) (h : Hw N ef G A H0 S H locs) {k n : Nat} (hk : k < N) (ha : ∀ r, ef G k r = .inl (G.2.2.1, n, .inl r)) {i : Int32} (hin : okx i n) (hdg : decode cc pc = .ok (.iaload, 1))
    (kk : W p l e R s m args below meth c H locs cells slots Q (F0 m (pc + 1) ls (.int (S k (ix i)) :: rest))) : W p l e R s m args below meth c H locs cells slots Q (F0 m pc ls (.int i :: .ref (adr G k) :: rest)) :=
  va_iald C.1 C.2.1 C.2.2.2.2.2.1 h.1 k 0 ((wld_get hk).trans (by rw [ha])) rfl (okx_in hin) hdg kk
theorem x_iast (C : Cx G own cc nL p s m args c) (h : Hw N ef G A H0 S H locs) {k n : Nat} (hk : k < N) (ha : ∀ r, ef G k r = .inl (G.2.2.1, n, .inl r)) {i x : Int32} (hin : okx i n) (hdg : decode cc pc = .ok (.iastore, 1))
    (kk : ∀ (H1 : Heap) (locs1 : List Loc), Hw N ef G A H0 (up S k (ix i) x) H1 locs1 → W p l e R s m args below meth c H1 locs1 cells slots Q (F0 m (pc + 1) ls rest)) : W p l e R s m args below meth c H locs cells slots Q (F0 m pc ls (.int x :: .int i :: .ref (adr G k) :: rest)) :=
  va_iast C.1 C.2.1 C.2.2.2.2.2.1 h.1 h.2.1 h.2.2.1 k 0 ((wld_get hk).trans (by rw [ha])) rfl (okx_in hin) hdg (fun H1 locs1 hP hD hS => kk H1 locs1 ⟨by rw [← ha, wld_set hk] at hP; exact hP, by rw [← ha, wld_set hk] at hD; exact hD, hS, h.2.2.2⟩)
theorem x_aald (C : Cx G own cc nL p s m args c) (h : Hw N ef G A H0 S H locs) {k n t0 : Nat} (hk : k < N) {cA : ClassId} {ty : FieldType} {f : Nat → Option Nat} (ha : ef G k (S k) = .inl (cA, n, .inr (.inr (.inr (.inr f))))) (ht : (tysG G)[t0]? = some (cA, ty)) (hty : ty.isReference = true) {i : Int32} (hin : okx i n) {a : Nat} (hf : f (ix i) = some a) (hdg : decode cc pc = .ok (.aaload, 1))
    (kk : W p l e R s m args below meth c H locs cells slots Q (F0 m (pc + 1) ls (.ref a :: rest))) : W p l e R s m args below meth c H locs cells slots Q (F0 m pc ls (.int i :: .ref (adr G k) :: rest)) := by
  have hin' := okx_in hin
  have hlt : i.toNatClampNeg < n := Nat.not_le.mp fun q => hin' (Or.inr q)
  have hP := h.1 k _ ((wld_get hk).trans (by rw [ha]))
  exact W.aald (v := .ref a) (ty := ty) C.1 C.2.1 hP ((C.2.2.2.2.2.1.2 t0 _ ht).1 n (fun j => va_rf (f j))) hty (fun q => by cases q) (by show ¬ (i < 0 ∨ (arrV _ _ _).slots.size ≤ _); rw [arrV_size]; exact hin') (by show (arrV _ _ _).slots[_]? = _; rw [arrV_read _ _ hlt, hf]; rfl) rfl rfl hdg kk
abbrev okc (sp dp n : Int32) (n0 n1 : Nat) : Prop := (0 ≤ sp.toInt ∧ 0 ≤ dp.toInt ∧ 0 ≤ n.toInt) ∧ ix sp + ix n ≤ n0 ∧ ix dp + ix n ≤ n1
theorem nneg {x : Int32} (h : 0 ≤ x.toInt) : ¬ x < 0 := by
  rw [Int32.lt_iff_toInt_lt]
  simp
  exact h
theorem x_copy (C : Cx G own cc nL p s m args c) (h : Hw N ef G A H0 S H locs) (hls : ls.size = nL) {index : Nat} (hlink : Cond.methodLink own index arraycopyName ∈ gtbl) (hnat : Cond.native arraycopyName ∈ gtbl) (hstat : Cond.static arraycopyName ∈ gtbl) (hini : Cond.initialized "java/lang/System" ∈ gtbl) {k0 k1 n0 n1 : Nat} (hk0 : k0 < N) (ha0 : ∀ r, ef G k0 r = .inl (G.2.2.1, n0, .inl r)) (hk1 : k1 < N) (ha1 : ∀ r, ef G k1 r = .inl (G.2.2.1, n1, .inl r)) {sp dp n : Int32} (ho : okc sp dp n n0 n1) (hframes : 1 ≤ R.frames) (hlocals : (rest.map fun v => v.category).sum + (nativeFrameWords "java/lang/System" "arraycopy" 5 + 11) ≤ R.locals) (hdg : decode cc pc = .ok (.invokestatic index, 3))
    (kk : ∀ (H1 : Heap) (locs1 : List Loc), Hw N ef G A H0 (va_up S k1 (va_cpy (S k0) (S k1) (ix sp) (ix dp) (ix n))) H1 locs1 → W p l e R s m args below meth c H1 locs1 cells slots Q (F0 m (pc + 3) ls rest)) : W p l e R s m args below meth c H locs cells slots Q (F0 m pc ls (.int n :: .int dp :: .ref (adr G k1) :: .int sp :: .ref (adr G k0) :: rest)) :=
  va_copyi C.1 C.2.1 (C.2.2.1.trans hls.symm) C.2.2.2.1 (C.2.2.2.2.1 _ hlink) (C.2.2.2.2.1 _ hnat) (C.2.2.2.2.1 _ hstat) (C.2.2.2.2.1 _ hini) C.2.2.2.2.2.1 h.1 h.2.1 h.2.2.1 k0 k1 0 0 ((wld_get hk0).trans (by rw [ha0])) ((wld_get hk1).trans (by rw [ha1])) rfl rfl rfl (nneg ho.1.1) (nneg ho.1.2.1) (nneg ho.1.2.2) ho.2.1 ho.2.2 (fun _ _ => rfl) hframes hlocals hdg (fun H1 locs1 hP hD hS => kk H1 locs1 ⟨by rw [← ha1, wld_set hk1] at hP; exact hP, by rw [← ha1, wld_set hk1] at hD; exact hD, hS, h.2.2.2⟩)
/-! calls -/
theorem AW_in {sz : Nat} (h : Hw N ef G A H0 S H locs) (hs : H0.size ≤ sz) : ∀ q, AW N G sz q → A q := by
  rintro q (⟨k, hk, rfl⟩ | hq)
  · exact h.2.1.2 k _ (wld_get hk)
  · exact h.2.2.2 q (Nat.le_trans hs hq)
theorem Hw_back {S' : St} {H1 : Heap} {locs1 : List Loc} {t : State} {sz : Nat} (h : Hw N ef G A H0 S H locs) (hs : H0.size ≤ sz) (ht : t.heap = H1) (hB : PostW N ef G sz S' t) (hS : va_S A H0 H1 locs1) : Hw N ef G A H0 S' H1 locs1 :=
  ⟨by rw [← ht]; exact hB.1, hB.2.weaken (fun _ _ _ hq => AW_in h hs _ hq), hS, h.2.2.2⟩
theorem Pre_blind {av : List Value} {sz : Nat} : FrameBlind (va_Pc av (PreW N ef G sz S)) := fun a U g mk q => ⟨q.1, q.2.1, q.2.2.1, KN.calling q.2.2.2.1, q.2.2.2.2⟩
theorem Pre_at {av : List Value} (C : Cx G own cc nL p s m args c) (h : Hw N ef G A H0 S H locs) : ∀ U : State, U.heap = H → s.WarmedH U.vm → va_Pc av (PreW N ef G H.size S) av.toArray U := fun U hU hW => ⟨rfl, by rw [hU], by rw [hU]; exact h.1, KN.warmed hW C.2.2.2.2.2, h.2.1.weaken (fun _ _ _ _ => trivial)⟩
theorem gU {own' : String} {idx : Nat} {y : MethodName} {c' : ByteArray} {n' : Nat} {r' : Option FieldType} (h1 : Cond.methodLink own' idx y ∈ gtbl) (h2 : Cond.instanceMethod y ∈ gtbl) (h3 : Cond.selects y.cls y y ∈ gtbl) (h4 : Cond.initialized y.cls ∈ gtbl) (h5 : Cond.code y c' n' r' ∈ gtbl) : GoodIn gtbl (wsV own' idx y.cls y (wU y c' n' r')) := by
  intro w hw
  have hm : w ∈ gtbl := by
    simp only [wsV, wU, List.cons_append, List.nil_append, List.mem_cons] at hw
    rcases hw with rfl | rfl | rfl | rfl | rfl | hw
    · exact h1
    · exact h2
    · exact h3
    · exact h4
    · exact h5
    · exact hw
  exact ⟨hm, gtbl_good hm⟩
theorem gUc {y : MethodName} {c' : ByteArray} {n' : Nat} {r' : Option FieldType} (h5 : Cond.code y c' n' r' ∈ gtbl) : GoodIn gtbl (wU y c' n' r') := by
  intro w hw
  have hm : w ∈ gtbl := by
    simp only [wU, List.mem_cons] at hw
    rcases hw with rfl | hw
    · exact h5
    · exact hw
  exact ⟨hm, gtbl_good hm⟩
/-- what a virtual call needs of the tables -/
def CV (own : String) (idx : Nat) (y : MethodName) (bytes : ByteArray) (maxL : Nat) (rt : Option FieldType) (n : Nat) : Prop := GoodIn gtbl (wsV own idx y.cls y (wU y bytes maxL rt)) ∧ (y.cls ≠ "java/lang/invoke/MethodHandle" ∧ y.cls ≠ "java/lang/invoke/VarHandle" ∧ (parseMethodDescriptor y.desc).map (fun d => d.parameters.length) = some n)
/-- what a static call needs of the tables -/
def CSt (own : String) (idx : Nat) (y : MethodName) (bytes : ByteArray) (maxL : Nat) (rt : Option FieldType) (n : Nat) : Prop := Cond.methodLink own idx y ∈ gtbl ∧ Cond.static y ∈ gtbl ∧ Cond.initialized y.cls ∈ gtbl ∧ Cond.code y bytes maxL rt ∈ gtbl ∧ (y.cls ≠ "java/lang/invoke/MethodHandle" ∧ y.cls ≠ "java/lang/invoke/VarHandle" ∧ (parseMethodDescriptor y.desc).map (fun d => d.parameters.length) = some n)
/-- a receiver in the world -/
def Rv (N : Nat) (ef : Ef) (G : Geo) (S : St) (b : Nat) (Cn : String) : Prop := ∃ (ci : Nat) (q : vw_C) (fs : List Value), b < N ∧ ef G b (S b) = .inr (ci, fs) ∧ vwCl[ci]? = some q ∧ q.1 = Cn
theorem Rv.cell {b : Nat} {Cn : String} (C : Cx G own cc nL p s m args c) (h : Hw N ef G A H0 S H locs) (r : Rv N ef G S b Cn) : ∃ cellB : Cell, H[adr G b]? = some cellB ∧ cellB.vm.isStatics = false ∧ s.vm.findClass Cn = some cellB.cls := by
  obtain ⟨ci, q, fs, hb, he, hc, rfl⟩ := r
  exact va_recv C.2.2.2.2.2.1 h.1 hc ((wld_get hb).trans (by rw [he]))
variable {y : MethodName} {bytes : ByteArray} {maxL : Nat} {rt : Option FieldType} {idx n k b : Nat} {As : List Value} {S' : St} {st : List Value}
theorem x_runV {Qc : Array Value → State → Outcome → State → Prop} {free : Addr → Prop} (C : Cx G own cc nL p s m args c) (h : Hw N ef G A H0 S H locs) (hM : Met l y (wU y bytes maxL rt) (rmK k) (va_Pc (.ref (adr G b) :: As) (PreW N ef G H.size S)) Qc 0 0 free) (hcv : CV own idx y bytes maxL rt n) (hr : Rv N ef G S b y.cls) (hls : ls.size = nL) (hn : As.length = n) (hst : st = As.reverse ++ .ref (adr G b) :: rest) (hR : k + 1 ≤ R.frames ∧ 8 + (maxL + 11) + 100 * k ≤ R.locals) (hcat : (rest.map fun v => v.category).sum ≤ 8) (hcs : cells ≤ R.cells ∧ slots ≤ R.slots) (hdg : decode cc pc = .ok (.invokevirtual idx, 3)) :
    va_Run p l e R s m args below meth c H locs cells slots 0 0 (F0 m pc ls st) rest (Qc (Value.ref (adr G b) :: As).toArray) free :=
  va_runV (As := As) (rest := rest) (C := y.cls) C.fix hM (cwV n C.2.2.2.2.1 hcv.1 rfl rfl rfl ⟨rfl, hcv.2⟩ hR) ⟨Pre_blind, hr.cell C h, Pre_at (av := .ref (adr G b) :: As) C h⟩ rfl hn hls hst (lv_room hcat) hdg hcs
theorem x_runS {Qc : Array Value → State → Outcome → State → Prop} {free : Addr → Prop} (C : Cx G own cc nL p s m args c) (h : Hw N ef G A H0 S H locs) (hM : Met l y (wU y bytes maxL rt) (rmK k) (va_Pc As (PreW N ef G H.size S)) Qc 0 0 free) (hcv : CSt own idx y bytes maxL rt n) (hls : ls.size = nL) (hn : As.length = n) (hst : st = As.reverse ++ rest) (hR : k + 1 ≤ R.frames ∧ 8 + (maxL + 11) + 100 * k ≤ R.locals) (hcat : (rest.map fun v => v.category).sum ≤ 8) (hcs : cells ≤ R.cells ∧ slots ≤ R.slots) (hdg : decode cc pc = .ok (.invokestatic idx, 3)) :
    va_Run p l e R s m args below meth c H locs cells slots 0 0 (F0 m pc ls st) rest (Qc As.toArray) free :=
  va_runS (As := As) (rest := rest) C.fix hM ⟨callB_of n C.2.2.2.2.1 (gUc hcv.2.2.2.1) rfl rfl rfl (C.2.2.2.2.1 _ hcv.2.2.1) (C.2.2.2.2.1 _ hcv.1) hcv.2.2.2.2 hR, C.2.2.2.2.1 _ hcv.2.1⟩ ⟨Pre_blind, Pre_at C h⟩ rfl hn hls hst (lv_room hcat) hdg hcs
theorem x_runSN {Qc : Array Value → State → Outcome → State → Prop} {free : Addr → Prop} {host : String} (C : Cx G own cc nL p s m args c) (h : Hw N ef G A H0 S H locs) (hM : Met l y (wU y bytes maxL rt) (rmK k) (va_Pc As (PreW N ef G H.size S)) Qc 0 0 free) (hnest : va_Nw (.methodLinkNest own idx y host) s) (hstat : Cond.static y ∈ gtbl) (hini : Cond.initialized y.cls ∈ gtbl) (hco : Cond.code y bytes maxL rt ∈ gtbl) (hd : y.cls ≠ "java/lang/invoke/MethodHandle" ∧ y.cls ≠ "java/lang/invoke/VarHandle" ∧ (parseMethodDescriptor y.desc).map (fun d => d.parameters.length) = some n) (hls : ls.size = nL) (hn : As.length = n) (hst : st = As.reverse ++ rest) (hR : k + 1 ≤ R.frames ∧ 8 + (maxL + 11) + 100 * k ≤ R.locals) (hcat : (rest.map fun v => v.category).sum ≤ 8) (hcs : cells ≤ R.cells ∧ slots ≤ R.slots) (hdg : decode cc pc = .ok (.invokestatic idx, 3)) :
    va_Run p l e R s m args below meth c H locs cells slots 0 0 (F0 m pc ls st) rest (Qc As.toArray) free :=
  va_runSN (As := As) (rest := rest) C.fix hM ⟨va_cnB n C.2.2.2.2.1 (gUc hco) rfl rfl rfl hnest (C.2.2.2.2.1 _ hini) hd hR, C.2.2.2.2.1 _ hstat, trivial⟩ ⟨Pre_blind, Pre_at C h⟩ rfl hn hls hst (lv_room hcat) hdg hcs
theorem x_backI {a : Array Value} {r : Int32} (h : Hw N ef G A H0 S H locs) (hr : va_Run p l e R s m args below meth c H locs cells slots 0 0 (F0 m pc ls st) rest (va_Qi (fun (r' : Int32) (u : St) => r' = r ∧ u = S') (PostW N ef G H.size) (AW N G H.size) a) (AW N G H.size))
    (kk : ∀ (H1 : Heap) (locs1 : List Loc), Hw N ef G A H0 S' H1 locs1 → W p l e R s m args below meth c H1 locs1 cells slots Q (F0 m (pc + 3) ls (.int r :: rest))) : W p l e R s m args below meth c H locs cells slots Q (F0 m pc ls st) :=
  va_calli hr h.2.2.1 (fun q _ hq => AW_in h h.2.2.1.1 q hq) (AW_in h h.2.2.1.1) (fun r' u t H1 locs1 ht hvm hw hB hz hk hS => by
    obtain ⟨rfl, rfl⟩ := hw
    exact kk H1 locs1 (Hw_back h h.2.2.1.1 ht hB hS))
theorem x_backL {a : Array Value} {r : Int64} (h : Hw N ef G A H0 S H locs) (hr : va_Run p l e R s m args below meth c H locs cells slots 0 0 (F0 m pc ls st) rest (va_Ql (fun (r' : Int64) (u : St) => r' = r ∧ u = S') (PostW N ef G H.size) (AW N G H.size) a) (AW N G H.size))
    (kk : ∀ (H1 : Heap) (locs1 : List Loc), Hw N ef G A H0 S' H1 locs1 → W p l e R s m args below meth c H1 locs1 cells slots Q (F0 m (pc + 3) ls (.long r :: rest))) : W p l e R s m args below meth c H locs cells slots Q (F0 m pc ls st) :=
  va_calll hr h.2.2.1 (fun q _ hq => AW_in h h.2.2.1.1 q hq) (AW_in h h.2.2.1.1) (fun r' u t H1 locs1 ht hvm hw hB hz hk hS => by
    obtain ⟨rfl, rfl⟩ := hw
    exact kk H1 locs1 (Hw_back h h.2.2.1.1 ht hB hS))
theorem x_backV {a : Array Value} (h : Hw N ef G A H0 S H locs) (hr : va_Run p l e R s m args below meth c H locs cells slots 0 0 (F0 m pc ls st) rest (va_Qv (fun (u : St) => u = S') (PostW N ef G H.size) (AW N G H.size) a) (AW N G H.size))
    (kk : ∀ (H1 : Heap) (locs1 : List Loc), Hw N ef G A H0 S' H1 locs1 → W p l e R s m args below meth c H1 locs1 cells slots Q (F0 m (pc + 3) ls rest)) : W p l e R s m args below meth c H locs cells slots Q (F0 m pc ls st) :=
  va_callv hr h.2.2.1 (fun q _ hq => AW_in h h.2.2.1.1 q hq) (AW_in h h.2.2.1.1) (fun u t H1 locs1 ht hvm hw hB hz hk hS => by
    obtain rfl := hw
    exact kk H1 locs1 (Hw_back h h.2.2.1.1 ht hB hS))
theorem x_backE {a : Array Value} {r : Option Nat} (h : Hw N ef G A H0 S H locs) (hr : va_Run p l e R s m args below meth c H locs cells slots 0 0 (F0 m pc ls st) rest (va_Qe (adr G) (fun (r' : Option Nat) (u : St) => r' = r ∧ u = S') (PostW N ef G H.size) (AW N G H.size) a) (AW N G H.size))
    (kk : ∀ (H1 : Heap) (locs1 : List Loc), Hw N ef G A H0 S' H1 locs1 → W p l e R s m args below meth c H1 locs1 cells slots Q (F0 m (pc + 3) ls (va_re (adr G) r :: rest))) : W p l e R s m args below meth c H locs cells slots Q (F0 m pc ls st) :=
  va_calle hr h.2.2.1 (fun q _ hq => AW_in h h.2.2.1.1 q hq) (AW_in h h.2.2.1.1) (fun r' u t H1 locs1 ht hvm hw hB hz hk hS => by
    obtain ⟨rfl, rfl⟩ := hw
    exact kk H1 locs1 (Hw_back h h.2.2.1.1 ht hB hS))
end ROWS
