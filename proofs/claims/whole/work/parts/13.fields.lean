theorem sh_of {i : Int32} (h : okx i 4) : shX (8 + ix i) := by
  obtain ⟨j, hj, e⟩ := vp_in_of (okx_in h) (by decide)
  subst e
  show 8 ≤ 8 + (nI j).toNatClampNeg ∧ 8 + (nI j).toNatClampNeg < 12
  rw [nI_clamp (by omega)]
  omega
theorem st_b {i : Int32} {n : Nat} (h : okx i n) (hn : n < 2 ^ 31) : ix i < n := by
  obtain ⟨j, hj, e⟩ := vp_in_of (okx_in h) hn
  subst e
  show (nI j).toNatClampNeg < n
  rw [nI_clamp (by omega)]
  exact hj
theorem st_lt {i : Int32} (h : okx i 5) : 16 + ix i < 37 := by
  have := st_b h (by decide)
  omega
theorem eX_cells {G : Geo} {k : Nat} (h : shX k) : ∀ r, eX G (k + 4) r = .inl (G.2.2.1, 60, .inl r) := fun r => (eX_ar (sh_ar h) r).trans (by rw [sh_len h])
theorem eX_step {G : Geo} {i : Int32} (h : okx i 5) : ∀ r, eX G (16 + ix i) r = .inl (G.2.2.1, 5, .inl r) := fun r => by
  have hb := st_b h (by decide)
  rw [eX_ar ⟨by omega, by omega⟩]
  have : lenX (16 + ix i) = 5 := by
    unfold lenX
    rw [if_neg (by omega), if_pos (by omega)]
  rw [this]
theorem ne_i {x : Int32} (v : Int32) (n : Int) (hv : v.toInt = n) (h : ¬ x = v) : x.toInt ≠ n := fun q => h (Int32.toInt_inj.mp (q.trans hv.symm))
abbrev shl32 (x y : Int32) : Int32 := x <<< (y &&& 31)
abbrev shr32 (x y : Int32) : Int32 := x >>> (y &&& 31)
abbrev rem32 (x y : Int32) : Int32 := x - x / y * y
abbrev rem64 (x y : Int64) : Int64 := x - x / y * y
def sm {α β γ : Type} (t : α ⊕ β) (f : α → Option γ) (g : β → Option γ) : Option γ := match t with
  | .inl a => f a
  | .inr b => g b
theorem sm_l {α β γ : Type} {a : α} {f : α → Option γ} {g : β → Option γ} {r : γ} (h : sm (.inl a) f g = some r) : f a = some r := h
theorem sm_r {α β γ : Type} {b : β} {f : α → Option γ} {g : β → Option γ} {r : γ} (h : sm (.inr b) f g = some r) : g b = some r := h
def op {α γ : Type} (t : Option α) (n : Option γ) (f : α → Option γ) : Option γ := match t with
  | none => n
  | some a => f a
theorem op_n {α γ : Type} {n : Option γ} {f : α → Option γ} {r : γ} (h : op none n f = some r) : n = some r := h
theorem op_sm {α γ : Type} {a : α} {n : Option γ} {f : α → Option γ} {r : γ} (h : op (some a) n f = some r) : f a = some r := h
theorem rv_X0 {G : Geo} {S : St} : Rv 37 eX G S 5 yX0_happens.cls := ⟨0, _, _, by decide, rfl, rfl, rfl⟩
theorem rv_X1 {G : Geo} {S : St} : Rv 37 eX G S 1 RX1 := ⟨1, _, _, by decide, rfl, rfl, rfl⟩
theorem rv_X2 {G : Geo} {S : St} : Rv 37 eX G S 3 RX2 := ⟨2, _, _, by decide, rfl, rfl, rfl⟩
theorem rv_X3 {G : Geo} {S : St} : Rv 37 eX G S 4 RX3 := ⟨3, _, _, by decide, rfl, rfl, rfl⟩
theorem rv_X4 {G : Geo} {S : St} {k : Nat} (h : shX k) : Rv 37 eX G S k RX4 := ⟨4, _, _, by omega, eX_sh h, rfl, rfl⟩
theorem rv_X5 {G : Geo} {S : St} : Rv 37 eX G S 2 RX5 := ⟨5, _, _, by decide, rfl, rfl, rfl⟩
theorem rv_X6 {G : Geo} {S : St} : Rv 37 eX G S 0 RX6 := ⟨6, _, _, by decide, rfl, rfl, rfl⟩
theorem rv_X7 {G : Geo} {S : St} : Rv 18 eM G S 0 RX7 := ⟨7, _, _, by decide, rfl, rfl, rfl⟩
section ROWS2
variable {p : Program} {l : Launch} {e : Env} {R : Room} {s : State} {m : MethodId} {args : Array Value} {below : List Frame} {meth : Method} {c : Code} {H : Heap} {locs : List Loc} {cells slots : Nat} {Q : State → Prop}
variable {cc : ByteArray} {pc nL : Nat} {ls : Array Slot} {rest : List Value} {G : Geo} {A : Nat → Prop} {H0 : Heap} {S : St} {own : String}
theorem bi_0 {b : Bool} : bi b = 0 ↔ b = false := by cases b <;> decide
theorem z_if_eq (hexec : p.tables.exec = Jvm.exec) (hb : c.code = cc) {x : Bool} {off : Int} {tgt : Nat} (hdg : decode cc pc = .ok (.ifCond .eq off, 3)) (ht : (pc : Int) + off = (tgt : Int)) (kt : x = false → W p l e R s m args below meth c H locs cells slots Q (F0 m tgt ls rest)) (kf : ¬ x = false → W p l e R s m args below meth c H locs cells slots Q (F0 m (pc + 3) ls rest)) : W p l e R s m args below meth c H locs cells slots Q (F0 m pc ls (.int (bi x) :: rest)) :=
  lv_if_eq hexec hb hdg ht (fun h => kt (bi_0.mp h)) (fun h => kf (fun q => h (bi_0.mpr q)))
theorem z_if_ne (hexec : p.tables.exec = Jvm.exec) (hb : c.code = cc) {x : Bool} {off : Int} {tgt : Nat} (hdg : decode cc pc = .ok (.ifCond .ne off, 3)) (ht : (pc : Int) + off = (tgt : Int)) (kt : x = true → W p l e R s m args below meth c H locs cells slots Q (F0 m tgt ls rest)) (kf : ¬ x = true → W p l e R s m args below meth c H locs cells slots Q (F0 m (pc + 3) ls rest)) : W p l e R s m args below meth c H locs cells slots Q (F0 m pc ls (.int (bi x) :: rest)) :=
  lv_if_ne hexec hb hdg ht (fun h => kt (by cases x with | true => rfl | false => exact absurd rfl h)) (fun h => kf (fun q => by rw [q] at h; exact absurd h (by decide)))
theorem x_sheet (C : Cx G own cc nL p s m args c) (h : HX G A H0 S H locs) {i : Int32} (hin : okx i 4) (hdg : decode cc pc = .ok (.aaload, 1)) (kk : W p l e R s m args below meth c H locs cells slots Q (F0 m (pc + 1) ls (.ref (adr G (8 + ix i)) :: rest))) : W p l e R s m args below meth c H locs cells slots Q (F0 m pc ls (.int i :: .ref (adr G 6) :: rest)) :=
  x_aald (ty := .object "LampSwitches$Sheet") (t0 := 1) C h (k := 6) (by decide) rfl rfl rfl hin (if_pos (st_b hin (by decide))) hdg kk
theorem x_steps (C : Cx G own cc nL p s m args c) (h : HX G A H0 S H locs) {i : Int32} (hin : okx i 5) (hdg : decode cc pc = .ok (.aaload, 1)) (kk : W p l e R s m args below meth c H locs cells slots Q (F0 m (pc + 1) ls (.ref (adr G (16 + ix i)) :: rest))) : W p l e R s m args below meth c H locs cells slots Q (F0 m pc ls (.int i :: .ref (adr G 7) :: rest)) :=
  x_aald (ty := .array .int) (t0 := 2) C h (k := 7) (by decide) rfl rfl rfl hin (if_pos (st_b hin (by decide))) hdg kk
theorem gf_RX0_9 (C : Cx G RX0 cc nL p s m args c) (h : HX G A H0 S H locs) (hdg : decode cc pc = .ok (.getfield 9, 3)) (kk : W p l e R s m args below meth c H locs cells slots Q (F0 m (pc + 3) ls (.ref (adr G 36) :: rest))) : W p l e R s m args below meth c H locs cells slots Q (F0 m pc ls (.ref (adr G 5) :: rest)) :=
  x_get (Cn := RX0) (T := TX0) (n := 4) C h inX0 (k := 5) (by decide) rfl rfl 0 (by decide) uFL_RX0_9 rfl hdg kk
theorem gf_RX0_15 (C : Cx G RX0 cc nL p s m args c) (h : HX G A H0 S H locs) (hdg : decode cc pc = .ok (.getfield 15, 3)) (kk : W p l e R s m args below meth c H locs cells slots Q (F0 m (pc + 3) ls (.ref (adr G 23) :: rest))) : W p l e R s m args below meth c H locs cells slots Q (F0 m pc ls (.ref (adr G 1) :: rest)) :=
  x_get (Cn := RX1) (T := TX1) (n := 8) C h inX1 (k := 1) (by decide) rfl rfl 2 (by decide) uFL_RX0_15 rfl hdg kk
theorem gf_RX0_26 (C : Cx G RX0 cc nL p s m args c) (h : HX G A H0 S H locs) (hdg : decode cc pc = .ok (.getfield 26, 3)) (kk : W p l e R s m args below meth c H locs cells slots Q (F0 m (pc + 3) ls (.int (S 5 1) :: rest))) : W p l e R s m args below meth c H locs cells slots Q (F0 m pc ls (.ref (adr G 5) :: rest)) :=
  x_get (Cn := RX0) (T := TX0) (n := 4) C h inX0 (k := 5) (by decide) rfl rfl 1 (by decide) uFL_RX0_26 rfl hdg kk
theorem pf_RX0_26 (C : Cx G RX0 cc nL p s m args c) (h : HX G A H0 S H locs) (hdg : decode cc pc = .ok (.putfield 26, 3)) {v : Int32} (kk : ∀ (H1 : Heap) (locs1 : List Loc), HX G A H0 (up S 5 1 v) H1 locs1 → W p l e R s m args below meth c H1 locs1 cells slots Q (F0 m (pc + 3) ls rest)) : W p l e R s m args below meth c H locs cells slots Q (F0 m pc ls (.int v :: .ref (adr G 5) :: rest)) :=
  x_put (Cn := RX0) (T := TX0) (n := 4) C h inX0 tyX0 tyX0_ok nmX0 (k := 5) (by decide) rfl rfl 1 (by decide) uFL_RX0_26 rfl (by decide +kernel) (Nat.le_of_ble_eq_true rfl) rfl hdg kk
theorem gf_RX0_30 (C : Cx G RX0 cc nL p s m args c) (h : HX G A H0 S H locs) (hdg : decode cc pc = .ok (.getfield 30, 3)) (kk : W p l e R s m args below meth c H locs cells slots Q (F0 m (pc + 3) ls (.int (S 5 2) :: rest))) : W p l e R s m args below meth c H locs cells slots Q (F0 m pc ls (.ref (adr G 5) :: rest)) :=
  x_get (Cn := RX0) (T := TX0) (n := 4) C h inX0 (k := 5) (by decide) rfl rfl 2 (by decide) uFL_RX0_30 rfl hdg kk
theorem pf_RX0_30 (C : Cx G RX0 cc nL p s m args c) (h : HX G A H0 S H locs) (hdg : decode cc pc = .ok (.putfield 30, 3)) {v : Int32} (kk : ∀ (H1 : Heap) (locs1 : List Loc), HX G A H0 (up S 5 2 v) H1 locs1 → W p l e R s m args below meth c H1 locs1 cells slots Q (F0 m (pc + 3) ls rest)) : W p l e R s m args below meth c H locs cells slots Q (F0 m pc ls (.int v :: .ref (adr G 5) :: rest)) :=
  x_put (Cn := RX0) (T := TX0) (n := 4) C h inX0 tyX0 tyX0_ok nmX0 (k := 5) (by decide) rfl rfl 2 (by decide) uFL_RX0_30 rfl (by decide +kernel) (Nat.le_of_ble_eq_true rfl) rfl hdg kk
theorem gf_RX0_33 (C : Cx G RX0 cc nL p s m args c) (h : HX G A H0 S H locs) (hdg : decode cc pc = .ok (.getfield 33, 3)) (kk : W p l e R s m args below meth c H locs cells slots Q (F0 m (pc + 3) ls (.int (S 5 3) :: rest))) : W p l e R s m args below meth c H locs cells slots Q (F0 m pc ls (.ref (adr G 5) :: rest)) :=
  x_get (Cn := RX0) (T := TX0) (n := 4) C h inX0 (k := 5) (by decide) rfl rfl 3 (by decide) uFL_RX0_33 rfl hdg kk
theorem pf_RX0_33 (C : Cx G RX0 cc nL p s m args c) (h : HX G A H0 S H locs) (hdg : decode cc pc = .ok (.putfield 33, 3)) {v : Int32} (kk : ∀ (H1 : Heap) (locs1 : List Loc), HX G A H0 (up S 5 3 v) H1 locs1 → W p l e R s m args below meth c H1 locs1 cells slots Q (F0 m (pc + 3) ls rest)) : W p l e R s m args below meth c H locs cells slots Q (F0 m pc ls (.int v :: .ref (adr G 5) :: rest)) :=
  x_put (Cn := RX0) (T := TX0) (n := 4) C h inX0 tyX0 tyX0_ok nmX0 (k := 5) (by decide) rfl rfl 3 (by decide) uFL_RX0_33 rfl (by decide +kernel) (Nat.le_of_ble_eq_true rfl) rfl hdg kk
theorem gf_RX0_50 (C : Cx G RX0 cc nL p s m args c) (h : HX G A H0 S H locs) (hdg : decode cc pc = .ok (.getfield 50, 3)) (kk : W p l e R s m args below meth c H locs cells slots Q (F0 m (pc + 3) ls (.int (S 1 0) :: rest))) : W p l e R s m args below meth c H locs cells slots Q (F0 m pc ls (.ref (adr G 1) :: rest)) :=
  x_get (Cn := RX1) (T := TX1) (n := 8) C h inX1 (k := 1) (by decide) rfl rfl 0 (by decide) uFL_RX0_50 rfl hdg kk
theorem pf_RX0_50 (C : Cx G RX0 cc nL p s m args c) (h : HX G A H0 S H locs) (hdg : decode cc pc = .ok (.putfield 50, 3)) {v : Int32} (kk : ∀ (H1 : Heap) (locs1 : List Loc), HX G A H0 (up S 1 0 v) H1 locs1 → W p l e R s m args below meth c H1 locs1 cells slots Q (F0 m (pc + 3) ls rest)) : W p l e R s m args below meth c H locs cells slots Q (F0 m pc ls (.int v :: .ref (adr G 1) :: rest)) :=
  x_put (Cn := RX1) (T := TX1) (n := 8) C h inX1 tyX1 tyX1_ok nmX1 (k := 1) (by decide) rfl rfl 0 (by decide) uFL_RX0_50 rfl (by decide +kernel) (Nat.le_of_ble_eq_true rfl) rfl hdg kk
theorem gf_RX1_9 (C : Cx G RX1 cc nL p s m args c) (h : HX G A H0 S H locs) (hdg : decode cc pc = .ok (.getfield 9, 3)) (kk : W p l e R s m args below meth c H locs cells slots Q (F0 m (pc + 3) ls (.ref (adr G 22) :: rest))) : W p l e R s m args below meth c H locs cells slots Q (F0 m pc ls (.ref (adr G 1) :: rest)) :=
  x_get (Cn := RX1) (T := TX1) (n := 8) C h inX1 (k := 1) (by decide) rfl rfl 1 (by decide) uFL_RX1_9 rfl hdg kk
theorem gf_RX1_15 (C : Cx G RX1 cc nL p s m args c) (h : HX G A H0 S H locs) (hdg : decode cc pc = .ok (.getfield 15, 3)) (kk : W p l e R s m args below meth c H locs cells slots Q (F0 m (pc + 3) ls (.ref (adr G 23) :: rest))) : W p l e R s m args below meth c H locs cells slots Q (F0 m pc ls (.ref (adr G 1) :: rest)) :=
  x_get (Cn := RX1) (T := TX1) (n := 8) C h inX1 (k := 1) (by decide) rfl rfl 2 (by decide) uFL_RX1_15 rfl hdg kk
theorem gf_RX1_18 (C : Cx G RX1 cc nL p s m args c) (h : HX G A H0 S H locs) (hdg : decode cc pc = .ok (.getfield 18, 3)) (kk : W p l e R s m args below meth c H locs cells slots Q (F0 m (pc + 3) ls (.ref (adr G 24) :: rest))) : W p l e R s m args below meth c H locs cells slots Q (F0 m pc ls (.ref (adr G 1) :: rest)) :=
  x_get (Cn := RX1) (T := TX1) (n := 8) C h inX1 (k := 1) (by decide) rfl rfl 4 (by decide) uFL_RX1_18 rfl hdg kk
theorem gf_RX1_21 (C : Cx G RX1 cc nL p s m args c) (h : HX G A H0 S H locs) (hdg : decode cc pc = .ok (.getfield 21, 3)) (kk : W p l e R s m args below meth c H locs cells slots Q (F0 m (pc + 3) ls (.ref (adr G 25) :: rest))) : W p l e R s m args below meth c H locs cells slots Q (F0 m pc ls (.ref (adr G 1) :: rest)) :=
  x_get (Cn := RX1) (T := TX1) (n := 8) C h inX1 (k := 1) (by decide) rfl rfl 5 (by decide) uFL_RX1_21 rfl hdg kk
theorem gf_RX1_24 (C : Cx G RX1 cc nL p s m args c) (h : HX G A H0 S H locs) (hdg : decode cc pc = .ok (.getfield 24, 3)) (kk : W p l e R s m args below meth c H locs cells slots Q (F0 m (pc + 3) ls (.ref (adr G 26) :: rest))) : W p l e R s m args below meth c H locs cells slots Q (F0 m pc ls (.ref (adr G 1) :: rest)) :=
  x_get (Cn := RX1) (T := TX1) (n := 8) C h inX1 (k := 1) (by decide) rfl rfl 6 (by decide) uFL_RX1_24 rfl hdg kk
theorem gf_RX1_27 (C : Cx G RX1 cc nL p s m args c) (h : HX G A H0 S H locs) (hdg : decode cc pc = .ok (.getfield 27, 3)) (kk : W p l e R s m args below meth c H locs cells slots Q (F0 m (pc + 3) ls (.ref (adr G 27) :: rest))) : W p l e R s m args below meth c H locs cells slots Q (F0 m pc ls (.ref (adr G 1) :: rest)) :=
  x_get (Cn := RX1) (T := TX1) (n := 8) C h inX1 (k := 1) (by decide) rfl rfl 7 (by decide) uFL_RX1_27 rfl hdg kk
theorem gf_RX1_30 (C : Cx G RX1 cc nL p s m args c) (h : HX G A H0 S H locs) (hdg : decode cc pc = .ok (.getfield 30, 3)) (kk : W p l e R s m args below meth c H locs cells slots Q (F0 m (pc + 3) ls (.int (S 1 0) :: rest))) : W p l e R s m args below meth c H locs cells slots Q (F0 m pc ls (.ref (adr G 1) :: rest)) :=
  x_get (Cn := RX1) (T := TX1) (n := 8) C h inX1 (k := 1) (by decide) rfl rfl 0 (by decide) uFL_RX1_30 rfl hdg kk
theorem pf_RX1_30 (C : Cx G RX1 cc nL p s m args c) (h : HX G A H0 S H locs) (hdg : decode cc pc = .ok (.putfield 30, 3)) {v : Int32} (kk : ∀ (H1 : Heap) (locs1 : List Loc), HX G A H0 (up S 1 0 v) H1 locs1 → W p l e R s m args below meth c H1 locs1 cells slots Q (F0 m (pc + 3) ls rest)) : W p l e R s m args below meth c H locs cells slots Q (F0 m pc ls (.int v :: .ref (adr G 1) :: rest)) :=
  x_put (Cn := RX1) (T := TX1) (n := 8) C h inX1 tyX1 tyX1_ok nmX1 (k := 1) (by decide) rfl rfl 0 (by decide) uFL_RX1_30 rfl (by decide +kernel) (Nat.le_of_ble_eq_true rfl) rfl hdg kk
theorem gf_RX1_34 (C : Cx G RX1 cc nL p s m args c) (h : HX G A H0 S H locs) (hdg : decode cc pc = .ok (.getfield 34, 3)) (kk : W p l e R s m args below meth c H locs cells slots Q (F0 m (pc + 3) ls (.int (S 1 3) :: rest))) : W p l e R s m args below meth c H locs cells slots Q (F0 m pc ls (.ref (adr G 1) :: rest)) :=
  x_get (Cn := RX1) (T := TX1) (n := 8) C h inX1 (k := 1) (by decide) rfl rfl 3 (by decide) uFL_RX1_34 rfl hdg kk
theorem pf_RX1_34 (C : Cx G RX1 cc nL p s m args c) (h : HX G A H0 S H locs) (hdg : decode cc pc = .ok (.putfield 34, 3)) {v : Int32} (kk : ∀ (H1 : Heap) (locs1 : List Loc), HX G A H0 (up S 1 3 v) H1 locs1 → W p l e R s m args below meth c H1 locs1 cells slots Q (F0 m (pc + 3) ls rest)) : W p l e R s m args below meth c H locs cells slots Q (F0 m pc ls (.int v :: .ref (adr G 1) :: rest)) :=
  x_put (Cn := RX1) (T := TX1) (n := 8) C h inX1 tyX1 tyX1_ok nmX1 (k := 1) (by decide) rfl rfl 3 (by decide) uFL_RX1_34 rfl (by decide +kernel) (Nat.le_of_ble_eq_true rfl) rfl hdg kk
theorem gf_RX2_9 (C : Cx G RX2 cc nL p s m args c) (h : HX G A H0 S H locs) (hdg : decode cc pc = .ok (.getfield 9, 3)) (kk : W p l e R s m args below meth c H locs cells slots Q (F0 m (pc + 3) ls (.ref (adr G 29) :: rest))) : W p l e R s m args below meth c H locs cells slots Q (F0 m pc ls (.ref (adr G 3) :: rest)) :=
  x_get (Cn := RX2) (T := TX2) (n := 7) C h inX2 (k := 3) (by decide) rfl rfl 0 (by decide) uFL_RX2_9 rfl hdg kk
theorem gf_RX2_17 (C : Cx G RX2 cc nL p s m args c) (h : HX G A H0 S H locs) (hdg : decode cc pc = .ok (.getfield 17, 3)) (kk : W p l e R s m args below meth c H locs cells slots Q (F0 m (pc + 3) ls (.ref (adr G 7) :: rest))) : W p l e R s m args below meth c H locs cells slots Q (F0 m pc ls (.ref (adr G 3) :: rest)) :=
  x_get (Cn := RX2) (T := TX2) (n := 7) C h inX2 (k := 3) (by decide) rfl rfl 1 (by decide) uFL_RX2_17 rfl hdg kk
theorem gf_RX2_20 (C : Cx G RX2 cc nL p s m args c) (h : HX G A H0 S H locs) (hdg : decode cc pc = .ok (.getfield 20, 3)) (kk : W p l e R s m args below meth c H locs cells slots Q (F0 m (pc + 3) ls (.ref (adr G 30) :: rest))) : W p l e R s m args below meth c H locs cells slots Q (F0 m pc ls (.ref (adr G 3) :: rest)) :=
  x_get (Cn := RX2) (T := TX2) (n := 7) C h inX2 (k := 3) (by decide) rfl rfl 2 (by decide) uFL_RX2_20 rfl hdg kk
theorem gf_RX2_23 (C : Cx G RX2 cc nL p s m args c) (h : HX G A H0 S H locs) (hdg : decode cc pc = .ok (.getfield 23, 3)) (kk : W p l e R s m args below meth c H locs cells slots Q (F0 m (pc + 3) ls (.ref (adr G 31) :: rest))) : W p l e R s m args below meth c H locs cells slots Q (F0 m pc ls (.ref (adr G 3) :: rest)) :=
  x_get (Cn := RX2) (T := TX2) (n := 7) C h inX2 (k := 3) (by decide) rfl rfl 3 (by decide) uFL_RX2_23 rfl hdg kk
theorem gf_RX2_26 (C : Cx G RX2 cc nL p s m args c) (h : HX G A H0 S H locs) (hdg : decode cc pc = .ok (.getfield 26, 3)) (kk : W p l e R s m args below meth c H locs cells slots Q (F0 m (pc + 3) ls (.ref (adr G 32) :: rest))) : W p l e R s m args below meth c H locs cells slots Q (F0 m pc ls (.ref (adr G 3) :: rest)) :=
  x_get (Cn := RX2) (T := TX2) (n := 7) C h inX2 (k := 3) (by decide) rfl rfl 4 (by decide) uFL_RX2_26 rfl hdg kk
theorem gf_RX2_29 (C : Cx G RX2 cc nL p s m args c) (h : HX G A H0 S H locs) (hdg : decode cc pc = .ok (.getfield 29, 3)) (kk : W p l e R s m args below meth c H locs cells slots Q (F0 m (pc + 3) ls (.int (S 3 6) :: rest))) : W p l e R s m args below meth c H locs cells slots Q (F0 m pc ls (.ref (adr G 3) :: rest)) :=
  x_get (Cn := RX2) (T := TX2) (n := 7) C h inX2 (k := 3) (by decide) rfl rfl 6 (by decide) uFL_RX2_29 rfl hdg kk
theorem pf_RX2_29 (C : Cx G RX2 cc nL p s m args c) (h : HX G A H0 S H locs) (hdg : decode cc pc = .ok (.putfield 29, 3)) {v : Int32} (kk : ∀ (H1 : Heap) (locs1 : List Loc), HX G A H0 (up S 3 6 v) H1 locs1 → W p l e R s m args below meth c H1 locs1 cells slots Q (F0 m (pc + 3) ls rest)) : W p l e R s m args below meth c H locs cells slots Q (F0 m pc ls (.int v :: .ref (adr G 3) :: rest)) :=
  x_put (Cn := RX2) (T := TX2) (n := 7) C h inX2 tyX2 tyX2_ok nmX2 (k := 3) (by decide) rfl rfl 6 (by decide) uFL_RX2_29 rfl (by decide +kernel) (Nat.le_of_ble_eq_true rfl) rfl hdg kk
theorem gf_RX2_37 (C : Cx G RX2 cc nL p s m args c) (h : HX G A H0 S H locs) (hdg : decode cc pc = .ok (.getfield 37, 3)) (kk : W p l e R s m args below meth c H locs cells slots Q (F0 m (pc + 3) ls (.int (S 3 5) :: rest))) : W p l e R s m args below meth c H locs cells slots Q (F0 m pc ls (.ref (adr G 3) :: rest)) :=
  x_get (Cn := RX2) (T := TX2) (n := 7) C h inX2 (k := 3) (by decide) rfl rfl 5 (by decide) uFL_RX2_37 rfl hdg kk
theorem pf_RX2_37 (C : Cx G RX2 cc nL p s m args c) (h : HX G A H0 S H locs) (hdg : decode cc pc = .ok (.putfield 37, 3)) {v : Int32} (kk : ∀ (H1 : Heap) (locs1 : List Loc), HX G A H0 (up S 3 5 v) H1 locs1 → W p l e R s m args below meth c H1 locs1 cells slots Q (F0 m (pc + 3) ls rest)) : W p l e R s m args below meth c H locs cells slots Q (F0 m pc ls (.int v :: .ref (adr G 3) :: rest)) :=
  x_put (Cn := RX2) (T := TX2) (n := 7) C h inX2 tyX2 tyX2_ok nmX2 (k := 3) (by decide) rfl rfl 5 (by decide) uFL_RX2_37 rfl (by decide +kernel) (Nat.le_of_ble_eq_true rfl) rfl hdg kk
theorem gf_RX2_57 (C : Cx G RX2 cc nL p s m args c) (h : HX G A H0 S H locs) (hdg : decode cc pc = .ok (.getfield 57, 3)) (kk : W p l e R s m args below meth c H locs cells slots Q (F0 m (pc + 3) ls (.int (S 1 3) :: rest))) : W p l e R s m args below meth c H locs cells slots Q (F0 m pc ls (.ref (adr G 1) :: rest)) :=
  x_get (Cn := RX1) (T := TX1) (n := 8) C h inX1 (k := 1) (by decide) rfl rfl 3 (by decide) uFL_RX2_57 rfl hdg kk
theorem pf_RX2_57 (C : Cx G RX2 cc nL p s m args c) (h : HX G A H0 S H locs) (hdg : decode cc pc = .ok (.putfield 57, 3)) {v : Int32} (kk : ∀ (H1 : Heap) (locs1 : List Loc), HX G A H0 (up S 1 3 v) H1 locs1 → W p l e R s m args below meth c H1 locs1 cells slots Q (F0 m (pc + 3) ls rest)) : W p l e R s m args below meth c H locs cells slots Q (F0 m pc ls (.int v :: .ref (adr G 1) :: rest)) :=
  x_put (Cn := RX1) (T := TX1) (n := 8) C h inX1 tyX1 tyX1_ok nmX1 (k := 1) (by decide) rfl rfl 3 (by decide) uFL_RX2_57 rfl (by decide +kernel) (Nat.le_of_ble_eq_true rfl) rfl hdg kk
theorem gf_RX2_79 (C : Cx G RX2 cc nL p s m args c) (h : HX G A H0 S H locs) (hdg : decode cc pc = .ok (.getfield 79, 3)) (kk : W p l e R s m args below meth c H locs cells slots Q (F0 m (pc + 3) ls (.int (S 1 0) :: rest))) : W p l e R s m args below meth c H locs cells slots Q (F0 m pc ls (.ref (adr G 1) :: rest)) :=
  x_get (Cn := RX1) (T := TX1) (n := 8) C h inX1 (k := 1) (by decide) rfl rfl 0 (by decide) uFL_RX2_79 rfl hdg kk
theorem pf_RX2_79 (C : Cx G RX2 cc nL p s m args c) (h : HX G A H0 S H locs) (hdg : decode cc pc = .ok (.putfield 79, 3)) {v : Int32} (kk : ∀ (H1 : Heap) (locs1 : List Loc), HX G A H0 (up S 1 0 v) H1 locs1 → W p l e R s m args below meth c H1 locs1 cells slots Q (F0 m (pc + 3) ls rest)) : W p l e R s m args below meth c H locs cells slots Q (F0 m pc ls (.int v :: .ref (adr G 1) :: rest)) :=
  x_put (Cn := RX1) (T := TX1) (n := 8) C h inX1 tyX1 tyX1_ok nmX1 (k := 1) (by decide) rfl rfl 0 (by decide) uFL_RX2_79 rfl (by decide +kernel) (Nat.le_of_ble_eq_true rfl) rfl hdg kk
theorem gf_RX2_82 (C : Cx G RX2 cc nL p s m args c) (h : HX G A H0 S H locs) (hdg : decode cc pc = .ok (.getfield 82, 3)) (kk : W p l e R s m args below meth c H locs cells slots Q (F0 m (pc + 3) ls (.ref (adr G 22) :: rest))) : W p l e R s m args below meth c H locs cells slots Q (F0 m pc ls (.ref (adr G 1) :: rest)) :=
  x_get (Cn := RX1) (T := TX1) (n := 8) C h inX1 (k := 1) (by decide) rfl rfl 1 (by decide) uFL_RX2_82 rfl hdg kk
theorem gf_RX3_9 (C : Cx G RX3 cc nL p s m args c) (h : HX G A H0 S H locs) (hdg : decode cc pc = .ok (.getfield 9, 3)) (kk : W p l e R s m args below meth c H locs cells slots Q (F0 m (pc + 3) ls (.ref (adr G 33) :: rest))) : W p l e R s m args below meth c H locs cells slots Q (F0 m pc ls (.ref (adr G 4) :: rest)) :=
  x_get (Cn := RX3) (T := TX3) (n := 4) C h inX3 (k := 4) (by decide) rfl rfl 1 (by decide) uFL_RX3_9 rfl hdg kk
theorem gf_RX3_15 (C : Cx G RX3 cc nL p s m args c) (h : HX G A H0 S H locs) (hdg : decode cc pc = .ok (.getfield 15, 3)) (kk : W p l e R s m args below meth c H locs cells slots Q (F0 m (pc + 3) ls (.ref (adr G 34) :: rest))) : W p l e R s m args below meth c H locs cells slots Q (F0 m pc ls (.ref (adr G 4) :: rest)) :=
  x_get (Cn := RX3) (T := TX3) (n := 4) C h inX3 (k := 4) (by decide) rfl rfl 2 (by decide) uFL_RX3_15 rfl hdg kk
theorem gf_RX3_18 (C : Cx G RX3 cc nL p s m args c) (h : HX G A H0 S H locs) (hdg : decode cc pc = .ok (.getfield 18, 3)) (kk : W p l e R s m args below meth c H locs cells slots Q (F0 m (pc + 3) ls (.ref (adr G 35) :: rest))) : W p l e R s m args below meth c H locs cells slots Q (F0 m pc ls (.ref (adr G 4) :: rest)) :=
  x_get (Cn := RX3) (T := TX3) (n := 4) C h inX3 (k := 4) (by decide) rfl rfl 3 (by decide) uFL_RX3_18 rfl hdg kk
theorem gf_RX3_21 (C : Cx G RX3 cc nL p s m args c) (h : HX G A H0 S H locs) (hdg : decode cc pc = .ok (.getfield 21, 3)) (kk : W p l e R s m args below meth c H locs cells slots Q (F0 m (pc + 3) ls (.int (S 4 0) :: rest))) : W p l e R s m args below meth c H locs cells slots Q (F0 m pc ls (.ref (adr G 4) :: rest)) :=
  x_get (Cn := RX3) (T := TX3) (n := 4) C h inX3 (k := 4) (by decide) rfl rfl 0 (by decide) uFL_RX3_21 rfl hdg kk
theorem pf_RX3_21 (C : Cx G RX3 cc nL p s m args c) (h : HX G A H0 S H locs) (hdg : decode cc pc = .ok (.putfield 21, 3)) {v : Int32} (kk : ∀ (H1 : Heap) (locs1 : List Loc), HX G A H0 (up S 4 0 v) H1 locs1 → W p l e R s m args below meth c H1 locs1 cells slots Q (F0 m (pc + 3) ls rest)) : W p l e R s m args below meth c H locs cells slots Q (F0 m pc ls (.int v :: .ref (adr G 4) :: rest)) :=
  x_put (Cn := RX3) (T := TX3) (n := 4) C h inX3 tyX3 tyX3_ok nmX3 (k := 4) (by decide) rfl rfl 0 (by decide) uFL_RX3_21 rfl (by decide +kernel) (Nat.le_of_ble_eq_true rfl) rfl hdg kk
theorem gf_RX4_9 (C : Cx G RX4 cc nL p s m args c) (h : HX G A H0 S H locs) {k : Nat} (hk : shX k) (hdg : decode cc pc = .ok (.getfield 9, 3)) (kk : W p l e R s m args below meth c H locs cells slots Q (F0 m (pc + 3) ls (.ref (adr G (k + 4)) :: rest))) : W p l e R s m args below meth c H locs cells slots Q (F0 m pc ls (.ref (adr G k) :: rest)) :=
  x_get (Cn := RX4) (T := TX4) (n := 3) C h inX4 (k := k) (by omega) (eX_sh hk) rfl 1 (by decide) uFL_RX4_9 rfl hdg kk
theorem gf_RX4_15 (C : Cx G RX4 cc nL p s m args c) (h : HX G A H0 S H locs) {k : Nat} (hk : shX k) (hdg : decode cc pc = .ok (.getfield 15, 3)) (kk : W p l e R s m args below meth c H locs cells slots Q (F0 m (pc + 3) ls (.int (S k 2) :: rest))) : W p l e R s m args below meth c H locs cells slots Q (F0 m pc ls (.ref (adr G k) :: rest)) :=
  x_get (Cn := RX4) (T := TX4) (n := 3) C h inX4 (k := k) (by omega) (eX_sh hk) rfl 2 (by decide) uFL_RX4_15 rfl hdg kk
theorem pf_RX4_15 (C : Cx G RX4 cc nL p s m args c) (h : HX G A H0 S H locs) {k : Nat} (hk : shX k) (hdg : decode cc pc = .ok (.putfield 15, 3)) {v : Int32} (kk : ∀ (H1 : Heap) (locs1 : List Loc), HX G A H0 (up S k 2 v) H1 locs1 → W p l e R s m args below meth c H1 locs1 cells slots Q (F0 m (pc + 3) ls rest)) : W p l e R s m args below meth c H locs cells slots Q (F0 m pc ls (.int v :: .ref (adr G k) :: rest)) :=
  x_put (Cn := RX4) (T := TX4) (n := 3) C h inX4 tyX4 tyX4_ok nmX4 (k := k) (by omega) (eX_sh hk) rfl 2 (by decide) uFL_RX4_15 rfl (by decide +kernel) (Nat.le_of_ble_eq_true rfl) (eX_sh hk) hdg kk
theorem gf_RX4_19 (C : Cx G RX4 cc nL p s m args c) (h : HX G A H0 S H locs) {k : Nat} (hk : shX k) (hdg : decode cc pc = .ok (.getfield 19, 3)) (kk : W p l e R s m args below meth c H locs cells slots Q (F0 m (pc + 3) ls (.int (S k 0) :: rest))) : W p l e R s m args below meth c H locs cells slots Q (F0 m pc ls (.ref (adr G k) :: rest)) :=
  x_get (Cn := RX4) (T := TX4) (n := 3) C h inX4 (k := k) (by omega) (eX_sh hk) rfl 0 (by decide) uFL_RX4_19 rfl hdg kk
theorem pf_RX4_19 (C : Cx G RX4 cc nL p s m args c) (h : HX G A H0 S H locs) {k : Nat} (hk : shX k) (hdg : decode cc pc = .ok (.putfield 19, 3)) {v : Int32} (kk : ∀ (H1 : Heap) (locs1 : List Loc), HX G A H0 (up S k 0 v) H1 locs1 → W p l e R s m args below meth c H1 locs1 cells slots Q (F0 m (pc + 3) ls rest)) : W p l e R s m args below meth c H locs cells slots Q (F0 m pc ls (.int v :: .ref (adr G k) :: rest)) :=
  x_put (Cn := RX4) (T := TX4) (n := 3) C h inX4 tyX4 tyX4_ok nmX4 (k := k) (by omega) (eX_sh hk) rfl 0 (by decide) uFL_RX4_19 rfl (by decide +kernel) (Nat.le_of_ble_eq_true rfl) (eX_sh hk) hdg kk
theorem gf_RX5_9 (C : Cx G RX5 cc nL p s m args c) (h : HX G A H0 S H locs) (hdg : decode cc pc = .ok (.getfield 9, 3)) (kk : W p l e R s m args below meth c H locs cells slots Q (F0 m (pc + 3) ls (.ref (adr G 28) :: rest))) : W p l e R s m args below meth c H locs cells slots Q (F0 m pc ls (.ref (adr G 2) :: rest)) :=
  x_get (Cn := RX5) (T := TX5) (n := 4) C h inX5 (k := 2) (by decide) rfl rfl 0 (by decide) uFL_RX5_9 rfl hdg kk
theorem gf_RX5_21 (C : Cx G RX5 cc nL p s m args c) (h : HX G A H0 S H locs) (hdg : decode cc pc = .ok (.getfield 21, 3)) (kk : W p l e R s m args below meth c H locs cells slots Q (F0 m (pc + 3) ls (.int (S 2 1) :: rest))) : W p l e R s m args below meth c H locs cells slots Q (F0 m pc ls (.ref (adr G 2) :: rest)) :=
  x_get (Cn := RX5) (T := TX5) (n := 4) C h inX5 (k := 2) (by decide) rfl rfl 1 (by decide) uFL_RX5_21 rfl hdg kk
theorem pf_RX5_21 (C : Cx G RX5 cc nL p s m args c) (h : HX G A H0 S H locs) (hdg : decode cc pc = .ok (.putfield 21, 3)) {v : Int32} (kk : ∀ (H1 : Heap) (locs1 : List Loc), HX G A H0 (up S 2 1 v) H1 locs1 → W p l e R s m args below meth c H1 locs1 cells slots Q (F0 m (pc + 3) ls rest)) : W p l e R s m args below meth c H locs cells slots Q (F0 m pc ls (.int v :: .ref (adr G 2) :: rest)) :=
  x_put (Cn := RX5) (T := TX5) (n := 4) C h inX5 tyX5 tyX5_ok nmX5 (k := 2) (by decide) rfl rfl 1 (by decide) uFL_RX5_21 rfl (by decide +kernel) (Nat.le_of_ble_eq_true rfl) rfl hdg kk
theorem gf_RX5_38 (C : Cx G RX5 cc nL p s m args c) (h : HX G A H0 S H locs) (hdg : decode cc pc = .ok (.getfield 38, 3)) (kk : W p l e R s m args below meth c H locs cells slots Q (F0 m (pc + 3) ls (.int (S 2 2) :: rest))) : W p l e R s m args below meth c H locs cells slots Q (F0 m pc ls (.ref (adr G 2) :: rest)) :=
  x_get (Cn := RX5) (T := TX5) (n := 4) C h inX5 (k := 2) (by decide) rfl rfl 2 (by decide) uFL_RX5_38 rfl hdg kk
theorem pf_RX5_38 (C : Cx G RX5 cc nL p s m args c) (h : HX G A H0 S H locs) (hdg : decode cc pc = .ok (.putfield 38, 3)) {v : Int32} (kk : ∀ (H1 : Heap) (locs1 : List Loc), HX G A H0 (up S 2 2 v) H1 locs1 → W p l e R s m args below meth c H1 locs1 cells slots Q (F0 m (pc + 3) ls rest)) : W p l e R s m args below meth c H locs cells slots Q (F0 m pc ls (.int v :: .ref (adr G 2) :: rest)) :=
  x_put (Cn := RX5) (T := TX5) (n := 4) C h inX5 tyX5 tyX5_ok nmX5 (k := 2) (by decide) rfl rfl 2 (by decide) uFL_RX5_38 rfl (by decide +kernel) (Nat.le_of_ble_eq_true rfl) rfl hdg kk
theorem gf_RX5_45 (C : Cx G RX5 cc nL p s m args c) (h : HX G A H0 S H locs) (hdg : decode cc pc = .ok (.getfield 45, 3)) (kk : W p l e R s m args below meth c H locs cells slots Q (F0 m (pc + 3) ls (.int (S 2 3) :: rest))) : W p l e R s m args below meth c H locs cells slots Q (F0 m pc ls (.ref (adr G 2) :: rest)) :=
  x_get (Cn := RX5) (T := TX5) (n := 4) C h inX5 (k := 2) (by decide) rfl rfl 3 (by decide) uFL_RX5_45 rfl hdg kk
theorem pf_RX5_45 (C : Cx G RX5 cc nL p s m args c) (h : HX G A H0 S H locs) (hdg : decode cc pc = .ok (.putfield 45, 3)) {v : Int32} (kk : ∀ (H1 : Heap) (locs1 : List Loc), HX G A H0 (up S 2 3 v) H1 locs1 → W p l e R s m args below meth c H1 locs1 cells slots Q (F0 m (pc + 3) ls rest)) : W p l e R s m args below meth c H locs cells slots Q (F0 m pc ls (.int v :: .ref (adr G 2) :: rest)) :=
  x_put (Cn := RX5) (T := TX5) (n := 4) C h inX5 tyX5 tyX5_ok nmX5 (k := 2) (by decide) rfl rfl 3 (by decide) uFL_RX5_45 rfl (by decide +kernel) (Nat.le_of_ble_eq_true rfl) rfl hdg kk
theorem gf_RX5_57 (C : Cx G RX5 cc nL p s m args c) (h : HX G A H0 S H locs) (hdg : decode cc pc = .ok (.getfield 57, 3)) (kk : W p l e R s m args below meth c H locs cells slots Q (F0 m (pc + 3) ls (.int (S 1 0) :: rest))) : W p l e R s m args below meth c H locs cells slots Q (F0 m pc ls (.ref (adr G 1) :: rest)) :=
  x_get (Cn := RX1) (T := TX1) (n := 8) C h inX1 (k := 1) (by decide) rfl rfl 0 (by decide) uFL_RX5_57 rfl hdg kk
theorem pf_RX5_57 (C : Cx G RX5 cc nL p s m args c) (h : HX G A H0 S H locs) (hdg : decode cc pc = .ok (.putfield 57, 3)) {v : Int32} (kk : ∀ (H1 : Heap) (locs1 : List Loc), HX G A H0 (up S 1 0 v) H1 locs1 → W p l e R s m args below meth c H1 locs1 cells slots Q (F0 m (pc + 3) ls rest)) : W p l e R s m args below meth c H locs cells slots Q (F0 m pc ls (.int v :: .ref (adr G 1) :: rest)) :=
  x_put (Cn := RX1) (T := TX1) (n := 8) C h inX1 tyX1 tyX1_ok nmX1 (k := 1) (by decide) rfl rfl 0 (by decide) uFL_RX5_57 rfl (by decide +kernel) (Nat.le_of_ble_eq_true rfl) rfl hdg kk
theorem gf_RX5_60 (C : Cx G RX5 cc nL p s m args c) (h : HX G A H0 S H locs) (hdg : decode cc pc = .ok (.getfield 60, 3)) (kk : W p l e R s m args below meth c H locs cells slots Q (F0 m (pc + 3) ls (.ref (adr G 22) :: rest))) : W p l e R s m args below meth c H locs cells slots Q (F0 m pc ls (.ref (adr G 1) :: rest)) :=
  x_get (Cn := RX1) (T := TX1) (n := 8) C h inX1 (k := 1) (by decide) rfl rfl 1 (by decide) uFL_RX5_60 rfl hdg kk
theorem gf_RX5_63 (C : Cx G RX5 cc nL p s m args c) (h : HX G A H0 S H locs) (hdg : decode cc pc = .ok (.getfield 63, 3)) (kk : W p l e R s m args below meth c H locs cells slots Q (F0 m (pc + 3) ls (.ref (adr G 23) :: rest))) : W p l e R s m args below meth c H locs cells slots Q (F0 m pc ls (.ref (adr G 1) :: rest)) :=
  x_get (Cn := RX1) (T := TX1) (n := 8) C h inX1 (k := 1) (by decide) rfl rfl 2 (by decide) uFL_RX5_63 rfl hdg kk
theorem gf_RX5_66 (C : Cx G RX5 cc nL p s m args c) (h : HX G A H0 S H locs) (hdg : decode cc pc = .ok (.getfield 66, 3)) (kk : W p l e R s m args below meth c H locs cells slots Q (F0 m (pc + 3) ls (.int (S 1 3) :: rest))) : W p l e R s m args below meth c H locs cells slots Q (F0 m pc ls (.ref (adr G 1) :: rest)) :=
  x_get (Cn := RX1) (T := TX1) (n := 8) C h inX1 (k := 1) (by decide) rfl rfl 3 (by decide) uFL_RX5_66 rfl hdg kk
theorem pf_RX5_66 (C : Cx G RX5 cc nL p s m args c) (h : HX G A H0 S H locs) (hdg : decode cc pc = .ok (.putfield 66, 3)) {v : Int32} (kk : ∀ (H1 : Heap) (locs1 : List Loc), HX G A H0 (up S 1 3 v) H1 locs1 → W p l e R s m args below meth c H1 locs1 cells slots Q (F0 m (pc + 3) ls rest)) : W p l e R s m args below meth c H locs cells slots Q (F0 m pc ls (.int v :: .ref (adr G 1) :: rest)) :=
  x_put (Cn := RX1) (T := TX1) (n := 8) C h inX1 tyX1 tyX1_ok nmX1 (k := 1) (by decide) rfl rfl 3 (by decide) uFL_RX5_66 rfl (by decide +kernel) (Nat.le_of_ble_eq_true rfl) rfl hdg kk
theorem gf_RX5_67 (C : Cx G RX5 cc nL p s m args c) (h : HX G A H0 S H locs) (hdg : decode cc pc = .ok (.getfield 67, 3)) (kk : W p l e R s m args below meth c H locs cells slots Q (F0 m (pc + 3) ls (.ref (adr G 24) :: rest))) : W p l e R s m args below meth c H locs cells slots Q (F0 m pc ls (.ref (adr G 1) :: rest)) :=
  x_get (Cn := RX1) (T := TX1) (n := 8) C h inX1 (k := 1) (by decide) rfl rfl 4 (by decide) uFL_RX5_67 rfl hdg kk
theorem gf_RX5_70 (C : Cx G RX5 cc nL p s m args c) (h : HX G A H0 S H locs) (hdg : decode cc pc = .ok (.getfield 70, 3)) (kk : W p l e R s m args below meth c H locs cells slots Q (F0 m (pc + 3) ls (.ref (adr G 25) :: rest))) : W p l e R s m args below meth c H locs cells slots Q (F0 m pc ls (.ref (adr G 1) :: rest)) :=
  x_get (Cn := RX1) (T := TX1) (n := 8) C h inX1 (k := 1) (by decide) rfl rfl 5 (by decide) uFL_RX5_70 rfl hdg kk
theorem gf_RX5_73 (C : Cx G RX5 cc nL p s m args c) (h : HX G A H0 S H locs) (hdg : decode cc pc = .ok (.getfield 73, 3)) (kk : W p l e R s m args below meth c H locs cells slots Q (F0 m (pc + 3) ls (.ref (adr G 26) :: rest))) : W p l e R s m args below meth c H locs cells slots Q (F0 m pc ls (.ref (adr G 1) :: rest)) :=
  x_get (Cn := RX1) (T := TX1) (n := 8) C h inX1 (k := 1) (by decide) rfl rfl 6 (by decide) uFL_RX5_73 rfl hdg kk
theorem gf_RX5_79 (C : Cx G RX5 cc nL p s m args c) (h : HX G A H0 S H locs) (hdg : decode cc pc = .ok (.getfield 79, 3)) (kk : W p l e R s m args below meth c H locs cells slots Q (F0 m (pc + 3) ls (.ref (adr G 27) :: rest))) : W p l e R s m args below meth c H locs cells slots Q (F0 m pc ls (.ref (adr G 1) :: rest)) :=
  x_get (Cn := RX1) (T := TX1) (n := 8) C h inX1 (k := 1) (by decide) rfl rfl 7 (by decide) uFL_RX5_79 rfl hdg kk
theorem gf_RX6_14 (C : Cx G RX6 cc nL p s m args c) (h : HX G A H0 S H locs) (hdg : decode cc pc = .ok (.getfield 14, 3)) (kk : W p l e R s m args below meth c H locs cells slots Q (F0 m (pc + 3) ls (.ref (adr G 1) :: rest))) : W p l e R s m args below meth c H locs cells slots Q (F0 m pc ls (.ref (adr G 0) :: rest)) :=
  x_get (Cn := RX6) (T := TX6) (n := 9) C h inX6 (k := 0) (by decide) rfl rfl 0 (by decide) uFL_RX6_14 rfl hdg kk
theorem gf_RX6_21 (C : Cx G RX6 cc nL p s m args c) (h : HX G A H0 S H locs) (hdg : decode cc pc = .ok (.getfield 21, 3)) (kk : W p l e R s m args below meth c H locs cells slots Q (F0 m (pc + 3) ls (.ref (adr G 2) :: rest))) : W p l e R s m args below meth c H locs cells slots Q (F0 m pc ls (.ref (adr G 0) :: rest)) :=
  x_get (Cn := RX6) (T := TX6) (n := 9) C h inX6 (k := 0) (by decide) rfl rfl 1 (by decide) uFL_RX6_21 rfl hdg kk
theorem gf_RX6_28 (C : Cx G RX6 cc nL p s m args c) (h : HX G A H0 S H locs) (hdg : decode cc pc = .ok (.getfield 28, 3)) (kk : W p l e R s m args below meth c H locs cells slots Q (F0 m (pc + 3) ls (.ref (adr G 3) :: rest))) : W p l e R s m args below meth c H locs cells slots Q (F0 m pc ls (.ref (adr G 0) :: rest)) :=
  x_get (Cn := RX6) (T := TX6) (n := 9) C h inX6 (k := 0) (by decide) rfl rfl 2 (by decide) uFL_RX6_28 rfl hdg kk
theorem gf_RX6_35 (C : Cx G RX6 cc nL p s m args c) (h : HX G A H0 S H locs) (hdg : decode cc pc = .ok (.getfield 35, 3)) (kk : W p l e R s m args below meth c H locs cells slots Q (F0 m (pc + 3) ls (.ref (adr G 4) :: rest))) : W p l e R s m args below meth c H locs cells slots Q (F0 m pc ls (.ref (adr G 0) :: rest)) :=
  x_get (Cn := RX6) (T := TX6) (n := 9) C h inX6 (k := 0) (by decide) rfl rfl 3 (by decide) uFL_RX6_35 rfl hdg kk
theorem gf_RX6_42 (C : Cx G RX6 cc nL p s m args c) (h : HX G A H0 S H locs) (hdg : decode cc pc = .ok (.getfield 42, 3)) (kk : W p l e R s m args below meth c H locs cells slots Q (F0 m (pc + 3) ls (.ref (adr G 5) :: rest))) : W p l e R s m args below meth c H locs cells slots Q (F0 m pc ls (.ref (adr G 0) :: rest)) :=
  x_get (Cn := RX6) (T := TX6) (n := 9) C h inX6 (k := 0) (by decide) rfl rfl 4 (by decide) uFL_RX6_42 rfl hdg kk
theorem gf_RX6_48 (C : Cx G RX6 cc nL p s m args c) (h : HX G A H0 S H locs) (hdg : decode cc pc = .ok (.getfield 48, 3)) (kk : W p l e R s m args below meth c H locs cells slots Q (F0 m (pc + 3) ls (.ref (adr G 6) :: rest))) : W p l e R s m args below meth c H locs cells slots Q (F0 m pc ls (.ref (adr G 0) :: rest)) :=
  x_get (Cn := RX6) (T := TX6) (n := 9) C h inX6 (k := 0) (by decide) rfl rfl 5 (by decide) uFL_RX6_48 rfl hdg kk
theorem gf_RX6_52 (C : Cx G RX6 cc nL p s m args c) (h : HX G A H0 S H locs) (hdg : decode cc pc = .ok (.getfield 52, 3)) (kk : W p l e R s m args below meth c H locs cells slots Q (F0 m (pc + 3) ls (.ref (adr G 21) :: rest))) : W p l e R s m args below meth c H locs cells slots Q (F0 m pc ls (.ref (adr G 0) :: rest)) :=
  x_get (Cn := RX6) (T := TX6) (n := 9) C h inX6 (k := 0) (by decide) rfl rfl 6 (by decide) uFL_RX6_52 rfl hdg kk
theorem gf_RX6_57 (C : Cx G RX6 cc nL p s m args c) (h : HX G A H0 S H locs) (hdg : decode cc pc = .ok (.getfield 57, 3)) (kk : W p l e R s m args below meth c H locs cells slots Q (F0 m (pc + 3) ls (.int (S 0 8) :: rest))) : W p l e R s m args below meth c H locs cells slots Q (F0 m pc ls (.ref (adr G 0) :: rest)) :=
  x_get (Cn := RX6) (T := TX6) (n := 9) C h inX6 (k := 0) (by decide) rfl rfl 8 (by decide) uFL_RX6_57 rfl hdg kk
theorem pf_RX6_57 (C : Cx G RX6 cc nL p s m args c) (h : HX G A H0 S H locs) (hdg : decode cc pc = .ok (.putfield 57, 3)) {v : Int32} (kk : ∀ (H1 : Heap) (locs1 : List Loc), HX G A H0 (up S 0 8 v) H1 locs1 → W p l e R s m args below meth c H1 locs1 cells slots Q (F0 m (pc + 3) ls rest)) : W p l e R s m args below meth c H locs cells slots Q (F0 m pc ls (.int v :: .ref (adr G 0) :: rest)) :=
  x_put (Cn := RX6) (T := TX6) (n := 9) C h inX6 tyX6 tyX6_ok nmX6 (k := 0) (by decide) rfl rfl 8 (by decide) uFL_RX6_57 rfl (by decide +kernel) (Nat.le_of_ble_eq_true rfl) rfl hdg kk
theorem gf_RX6_92 (C : Cx G RX6 cc nL p s m args c) (h : HX G A H0 S H locs) (hdg : decode cc pc = .ok (.getfield 92, 3)) (kk : W p l e R s m args below meth c H locs cells slots Q (F0 m (pc + 3) ls (.int (S 4 0) :: rest))) : W p l e R s m args below meth c H locs cells slots Q (F0 m pc ls (.ref (adr G 4) :: rest)) :=
  x_get (Cn := RX3) (T := TX3) (n := 4) C h inX3 (k := 4) (by decide) rfl rfl 0 (by decide) uFL_RX6_92 rfl hdg kk
theorem pf_RX6_92 (C : Cx G RX6 cc nL p s m args c) (h : HX G A H0 S H locs) (hdg : decode cc pc = .ok (.putfield 92, 3)) {v : Int32} (kk : ∀ (H1 : Heap) (locs1 : List Loc), HX G A H0 (up S 4 0 v) H1 locs1 → W p l e R s m args below meth c H1 locs1 cells slots Q (F0 m (pc + 3) ls rest)) : W p l e R s m args below meth c H locs cells slots Q (F0 m pc ls (.int v :: .ref (adr G 4) :: rest)) :=
  x_put (Cn := RX3) (T := TX3) (n := 4) C h inX3 tyX3 tyX3_ok nmX3 (k := 4) (by decide) rfl rfl 0 (by decide) uFL_RX6_92 rfl (by decide +kernel) (Nat.le_of_ble_eq_true rfl) rfl hdg kk
theorem gf_RX6_98 (C : Cx G RX6 cc nL p s m args c) (h : HX G A H0 S H locs) (hdg : decode cc pc = .ok (.getfield 98, 3)) (kk : W p l e R s m args below meth c H locs cells slots Q (F0 m (pc + 3) ls (.int (S 1 3) :: rest))) : W p l e R s m args below meth c H locs cells slots Q (F0 m pc ls (.ref (adr G 1) :: rest)) :=
  x_get (Cn := RX1) (T := TX1) (n := 8) C h inX1 (k := 1) (by decide) rfl rfl 3 (by decide) uFL_RX6_98 rfl hdg kk
theorem pf_RX6_98 (C : Cx G RX6 cc nL p s m args c) (h : HX G A H0 S H locs) (hdg : decode cc pc = .ok (.putfield 98, 3)) {v : Int32} (kk : ∀ (H1 : Heap) (locs1 : List Loc), HX G A H0 (up S 1 3 v) H1 locs1 → W p l e R s m args below meth c H1 locs1 cells slots Q (F0 m (pc + 3) ls rest)) : W p l e R s m args below meth c H locs cells slots Q (F0 m pc ls (.int v :: .ref (adr G 1) :: rest)) :=
  x_put (Cn := RX1) (T := TX1) (n := 8) C h inX1 tyX1 tyX1_ok nmX1 (k := 1) (by decide) rfl rfl 3 (by decide) uFL_RX6_98 rfl (by decide +kernel) (Nat.le_of_ble_eq_true rfl) rfl hdg kk
theorem gf_RX6_104 (C : Cx G RX6 cc nL p s m args c) (h : HX G A H0 S H locs) (hdg : decode cc pc = .ok (.getfield 104, 3)) (kk : W p l e R s m args below meth c H locs cells slots Q (F0 m (pc + 3) ls (.ref (adr G 22) :: rest))) : W p l e R s m args below meth c H locs cells slots Q (F0 m pc ls (.ref (adr G 1) :: rest)) :=
  x_get (Cn := RX1) (T := TX1) (n := 8) C h inX1 (k := 1) (by decide) rfl rfl 1 (by decide) uFL_RX6_104 rfl hdg kk
theorem gf_RX6_107 (C : Cx G RX6 cc nL p s m args c) (h : HX G A H0 S H locs) (hdg : decode cc pc = .ok (.getfield 107, 3)) (kk : W p l e R s m args below meth c H locs cells slots Q (F0 m (pc + 3) ls (.ref (adr G 23) :: rest))) : W p l e R s m args below meth c H locs cells slots Q (F0 m pc ls (.ref (adr G 1) :: rest)) :=
  x_get (Cn := RX1) (T := TX1) (n := 8) C h inX1 (k := 1) (by decide) rfl rfl 2 (by decide) uFL_RX6_107 rfl hdg kk
theorem gf_RX6_116 (C : Cx G RX6 cc nL p s m args c) (h : HX G A H0 S H locs) (hdg : decode cc pc = .ok (.getfield 116, 3)) (kk : W p l e R s m args below meth c H locs cells slots Q (F0 m (pc + 3) ls (.ref (adr G 24) :: rest))) : W p l e R s m args below meth c H locs cells slots Q (F0 m pc ls (.ref (adr G 1) :: rest)) :=
  x_get (Cn := RX1) (T := TX1) (n := 8) C h inX1 (k := 1) (by decide) rfl rfl 4 (by decide) uFL_RX6_116 rfl hdg kk
theorem gf_RX6_119 (C : Cx G RX6 cc nL p s m args c) (h : HX G A H0 S H locs) (hdg : decode cc pc = .ok (.getfield 119, 3)) (kk : W p l e R s m args below meth c H locs cells slots Q (F0 m (pc + 3) ls (.ref (adr G 25) :: rest))) : W p l e R s m args below meth c H locs cells slots Q (F0 m pc ls (.ref (adr G 1) :: rest)) :=
  x_get (Cn := RX1) (T := TX1) (n := 8) C h inX1 (k := 1) (by decide) rfl rfl 5 (by decide) uFL_RX6_119 rfl hdg kk
theorem gf_RX6_125 (C : Cx G RX6 cc nL p s m args c) (h : HX G A H0 S H locs) (hdg : decode cc pc = .ok (.getfield 125, 3)) (kk : W p l e R s m args below meth c H locs cells slots Q (F0 m (pc + 3) ls (.ref (adr G 26) :: rest))) : W p l e R s m args below meth c H locs cells slots Q (F0 m pc ls (.ref (adr G 1) :: rest)) :=
  x_get (Cn := RX1) (T := TX1) (n := 8) C h inX1 (k := 1) (by decide) rfl rfl 6 (by decide) uFL_RX6_125 rfl hdg kk
theorem gf_RX6_128 (C : Cx G RX6 cc nL p s m args c) (h : HX G A H0 S H locs) (hdg : decode cc pc = .ok (.getfield 128, 3)) (kk : W p l e R s m args below meth c H locs cells slots Q (F0 m (pc + 3) ls (.ref (adr G 27) :: rest))) : W p l e R s m args below meth c H locs cells slots Q (F0 m pc ls (.ref (adr G 1) :: rest)) :=
  x_get (Cn := RX1) (T := TX1) (n := 8) C h inX1 (k := 1) (by decide) rfl rfl 7 (by decide) uFL_RX6_128 rfl hdg kk
theorem gf_RX6_178 (C : Cx G RX6 cc nL p s m args c) (h : HX G A H0 S H locs) (hdg : decode cc pc = .ok (.getfield 178, 3)) (kk : W p l e R s m args below meth c H locs cells slots Q (F0 m (pc + 3) ls (.int (S 5 1) :: rest))) : W p l e R s m args below meth c H locs cells slots Q (F0 m pc ls (.ref (adr G 5) :: rest)) :=
  x_get (Cn := RX0) (T := TX0) (n := 4) C h inX0 (k := 5) (by decide) rfl rfl 1 (by decide) uFL_RX6_178 rfl hdg kk
theorem pf_RX6_178 (C : Cx G RX6 cc nL p s m args c) (h : HX G A H0 S H locs) (hdg : decode cc pc = .ok (.putfield 178, 3)) {v : Int32} (kk : ∀ (H1 : Heap) (locs1 : List Loc), HX G A H0 (up S 5 1 v) H1 locs1 → W p l e R s m args below meth c H1 locs1 cells slots Q (F0 m (pc + 3) ls rest)) : W p l e R s m args below meth c H locs cells slots Q (F0 m pc ls (.int v :: .ref (adr G 5) :: rest)) :=
  x_put (Cn := RX0) (T := TX0) (n := 4) C h inX0 tyX0 tyX0_ok nmX0 (k := 5) (by decide) rfl rfl 1 (by decide) uFL_RX6_178 rfl (by decide +kernel) (Nat.le_of_ble_eq_true rfl) rfl hdg kk
theorem gf_RX6_181 (C : Cx G RX6 cc nL p s m args c) (h : HX G A H0 S H locs) (hdg : decode cc pc = .ok (.getfield 181, 3)) (kk : W p l e R s m args below meth c H locs cells slots Q (F0 m (pc + 3) ls (.ref (adr G 36) :: rest))) : W p l e R s m args below meth c H locs cells slots Q (F0 m pc ls (.ref (adr G 5) :: rest)) :=
  x_get (Cn := RX0) (T := TX0) (n := 4) C h inX0 (k := 5) (by decide) rfl rfl 0 (by decide) uFL_RX6_181 rfl hdg kk
theorem gf_RX6_187 (C : Cx G RX6 cc nL p s m args c) (h : HX G A H0 S H locs) (hdg : decode cc pc = .ok (.getfield 187, 3)) (kk : W p l e R s m args below meth c H locs cells slots Q (F0 m (pc + 3) ls (.int (S 5 2) :: rest))) : W p l e R s m args below meth c H locs cells slots Q (F0 m pc ls (.ref (adr G 5) :: rest)) :=
  x_get (Cn := RX0) (T := TX0) (n := 4) C h inX0 (k := 5) (by decide) rfl rfl 2 (by decide) uFL_RX6_187 rfl hdg kk
theorem pf_RX6_187 (C : Cx G RX6 cc nL p s m args c) (h : HX G A H0 S H locs) (hdg : decode cc pc = .ok (.putfield 187, 3)) {v : Int32} (kk : ∀ (H1 : Heap) (locs1 : List Loc), HX G A H0 (up S 5 2 v) H1 locs1 → W p l e R s m args below meth c H1 locs1 cells slots Q (F0 m (pc + 3) ls rest)) : W p l e R s m args below meth c H locs cells slots Q (F0 m pc ls (.int v :: .ref (adr G 5) :: rest)) :=
  x_put (Cn := RX0) (T := TX0) (n := 4) C h inX0 tyX0 tyX0_ok nmX0 (k := 5) (by decide) rfl rfl 2 (by decide) uFL_RX6_187 rfl (by decide +kernel) (Nat.le_of_ble_eq_true rfl) rfl hdg kk
theorem gf_RX6_190 (C : Cx G RX6 cc nL p s m args c) (h : HX G A H0 S H locs) (hdg : decode cc pc = .ok (.getfield 190, 3)) (kk : W p l e R s m args below meth c H locs cells slots Q (F0 m (pc + 3) ls (.int (S 5 3) :: rest))) : W p l e R s m args below meth c H locs cells slots Q (F0 m pc ls (.ref (adr G 5) :: rest)) :=
  x_get (Cn := RX0) (T := TX0) (n := 4) C h inX0 (k := 5) (by decide) rfl rfl 3 (by decide) uFL_RX6_190 rfl hdg kk
theorem pf_RX6_190 (C : Cx G RX6 cc nL p s m args c) (h : HX G A H0 S H locs) (hdg : decode cc pc = .ok (.putfield 190, 3)) {v : Int32} (kk : ∀ (H1 : Heap) (locs1 : List Loc), HX G A H0 (up S 5 3 v) H1 locs1 → W p l e R s m args below meth c H1 locs1 cells slots Q (F0 m (pc + 3) ls rest)) : W p l e R s m args below meth c H locs cells slots Q (F0 m pc ls (.int v :: .ref (adr G 5) :: rest)) :=
  x_put (Cn := RX0) (T := TX0) (n := 4) C h inX0 tyX0 tyX0_ok nmX0 (k := 5) (by decide) rfl rfl 3 (by decide) uFL_RX6_190 rfl (by decide +kernel) (Nat.le_of_ble_eq_true rfl) rfl hdg kk
theorem gf_RX6_193 (C : Cx G RX6 cc nL p s m args c) (h : HX G A H0 S H locs) (hdg : decode cc pc = .ok (.getfield 193, 3)) (kk : W p l e R s m args below meth c H locs cells slots Q (F0 m (pc + 3) ls (.int (S 1 0) :: rest))) : W p l e R s m args below meth c H locs cells slots Q (F0 m pc ls (.ref (adr G 1) :: rest)) :=
  x_get (Cn := RX1) (T := TX1) (n := 8) C h inX1 (k := 1) (by decide) rfl rfl 0 (by decide) uFL_RX6_193 rfl hdg kk
theorem pf_RX6_193 (C : Cx G RX6 cc nL p s m args c) (h : HX G A H0 S H locs) (hdg : decode cc pc = .ok (.putfield 193, 3)) {v : Int32} (kk : ∀ (H1 : Heap) (locs1 : List Loc), HX G A H0 (up S 1 0 v) H1 locs1 → W p l e R s m args below meth c H1 locs1 cells slots Q (F0 m (pc + 3) ls rest)) : W p l e R s m args below meth c H locs cells slots Q (F0 m pc ls (.int v :: .ref (adr G 1) :: rest)) :=
  x_put (Cn := RX1) (T := TX1) (n := 8) C h inX1 tyX1 tyX1_ok nmX1 (k := 1) (by decide) rfl rfl 0 (by decide) uFL_RX6_193 rfl (by decide +kernel) (Nat.le_of_ble_eq_true rfl) rfl hdg kk
theorem gf_RX6_257 (C : Cx G RX6 cc nL p s m args c) (h : HX G A H0 S H locs) {k : Nat} (hk : shX k) (hdg : decode cc pc = .ok (.getfield 257, 3)) (kk : W p l e R s m args below meth c H locs cells slots Q (F0 m (pc + 3) ls (.int (S k 0) :: rest))) : W p l e R s m args below meth c H locs cells slots Q (F0 m pc ls (.ref (adr G k) :: rest)) :=
  x_get (Cn := RX4) (T := TX4) (n := 3) C h inX4 (k := k) (by omega) (eX_sh hk) rfl 0 (by decide) uFL_RX6_257 rfl hdg kk
theorem pf_RX6_257 (C : Cx G RX6 cc nL p s m args c) (h : HX G A H0 S H locs) {k : Nat} (hk : shX k) (hdg : decode cc pc = .ok (.putfield 257, 3)) {v : Int32} (kk : ∀ (H1 : Heap) (locs1 : List Loc), HX G A H0 (up S k 0 v) H1 locs1 → W p l e R s m args below meth c H1 locs1 cells slots Q (F0 m (pc + 3) ls rest)) : W p l e R s m args below meth c H locs cells slots Q (F0 m pc ls (.int v :: .ref (adr G k) :: rest)) :=
  x_put (Cn := RX4) (T := TX4) (n := 3) C h inX4 tyX4 tyX4_ok nmX4 (k := k) (by omega) (eX_sh hk) rfl 0 (by decide) uFL_RX6_257 rfl (by decide +kernel) (Nat.le_of_ble_eq_true rfl) (eX_sh hk) hdg kk
theorem gf_RX6_260 (C : Cx G RX6 cc nL p s m args c) (h : HX G A H0 S H locs) {k : Nat} (hk : shX k) (hdg : decode cc pc = .ok (.getfield 260, 3)) (kk : W p l e R s m args below meth c H locs cells slots Q (F0 m (pc + 3) ls (.ref (adr G (k + 4)) :: rest))) : W p l e R s m args below meth c H locs cells slots Q (F0 m pc ls (.ref (adr G k) :: rest)) :=
  x_get (Cn := RX4) (T := TX4) (n := 3) C h inX4 (k := k) (by omega) (eX_sh hk) rfl 1 (by decide) uFL_RX6_260 rfl hdg kk
theorem gf_RX6_282 (C : Cx G RX6 cc nL p s m args c) (h : HX G A H0 S H locs) (hdg : decode cc pc = .ok (.getfield 282, 3)) (kk : W p l e R s m args below meth c H locs cells slots Q (F0 m (pc + 3) ls (.int (S 0 7) :: rest))) : W p l e R s m args below meth c H locs cells slots Q (F0 m pc ls (.ref (adr G 0) :: rest)) :=
  x_get (Cn := RX6) (T := TX6) (n := 9) C h inX6 (k := 0) (by decide) rfl rfl 7 (by decide) uFL_RX6_282 rfl hdg kk
theorem pf_RX6_282 (C : Cx G RX6 cc nL p s m args c) (h : HX G A H0 S H locs) (hdg : decode cc pc = .ok (.putfield 282, 3)) {v : Int32} (kk : ∀ (H1 : Heap) (locs1 : List Loc), HX G A H0 (up S 0 7 v) H1 locs1 → W p l e R s m args below meth c H1 locs1 cells slots Q (F0 m (pc + 3) ls rest)) : W p l e R s m args below meth c H locs cells slots Q (F0 m pc ls (.int v :: .ref (adr G 0) :: rest)) :=
  x_put (Cn := RX6) (T := TX6) (n := 9) C h inX6 tyX6 tyX6_ok nmX6 (k := 0) (by decide) rfl rfl 7 (by decide) uFL_RX6_282 rfl (by decide +kernel) (Nat.le_of_ble_eq_true rfl) rfl hdg kk
theorem gf_RX7_9 (C : Cx G RX7 cc nL p s m args c) (h : HM G A H0 S H locs) (hdg : decode cc pc = .ok (.getfield 9, 3)) (kk : W p l e R s m args below meth c H locs cells slots Q (F0 m (pc + 3) ls (.ref (adr G 1) :: rest))) : W p l e R s m args below meth c H locs cells slots Q (F0 m pc ls (.ref (adr G 0) :: rest)) :=
  x_get (Cn := RX7) (T := TX7) (n := 28) C h inX7 (k := 0) (by decide) rfl rfl 2 (by decide) uFL_RX7_9 rfl hdg kk
theorem gf_RX7_13 (C : Cx G RX7 cc nL p s m args c) (h : HM G A H0 S H locs) (hdg : decode cc pc = .ok (.getfield 13, 3)) (kk : W p l e R s m args below meth c H locs cells slots Q (F0 m (pc + 3) ls (.ref (adr G 2) :: rest))) : W p l e R s m args below meth c H locs cells slots Q (F0 m pc ls (.ref (adr G 0) :: rest)) :=
  x_get (Cn := RX7) (T := TX7) (n := 28) C h inX7 (k := 0) (by decide) rfl rfl 3 (by decide) uFL_RX7_13 rfl hdg kk
theorem gf_RX7_16 (C : Cx G RX7 cc nL p s m args c) (h : HM G A H0 S H locs) (hdg : decode cc pc = .ok (.getfield 16, 3)) (kk : W p l e R s m args below meth c H locs cells slots Q (F0 m (pc + 3) ls (.ref (adr G 3) :: rest))) : W p l e R s m args below meth c H locs cells slots Q (F0 m pc ls (.ref (adr G 0) :: rest)) :=
  x_get (Cn := RX7) (T := TX7) (n := 28) C h inX7 (k := 0) (by decide) rfl rfl 4 (by decide) uFL_RX7_16 rfl hdg kk
theorem gf_RX7_19 (C : Cx G RX7 cc nL p s m args c) (h : HM G A H0 S H locs) (hdg : decode cc pc = .ok (.getfield 19, 3)) (kk : W p l e R s m args below meth c H locs cells slots Q (F0 m (pc + 3) ls (.ref (adr G 4) :: rest))) : W p l e R s m args below meth c H locs cells slots Q (F0 m pc ls (.ref (adr G 0) :: rest)) :=
  x_get (Cn := RX7) (T := TX7) (n := 28) C h inX7 (k := 0) (by decide) rfl rfl 8 (by decide) uFL_RX7_19 rfl hdg kk
theorem gf_RX7_22 (C : Cx G RX7 cc nL p s m args c) (h : HM G A H0 S H locs) (hdg : decode cc pc = .ok (.getfield 22, 3)) (kk : W p l e R s m args below meth c H locs cells slots Q (F0 m (pc + 3) ls (.ref (adr G 5) :: rest))) : W p l e R s m args below meth c H locs cells slots Q (F0 m pc ls (.ref (adr G 0) :: rest)) :=
  x_get (Cn := RX7) (T := TX7) (n := 28) C h inX7 (k := 0) (by decide) rfl rfl 9 (by decide) uFL_RX7_22 rfl hdg kk
theorem gf_RX7_25 (C : Cx G RX7 cc nL p s m args c) (h : HM G A H0 S H locs) (hdg : decode cc pc = .ok (.getfield 25, 3)) (kk : W p l e R s m args below meth c H locs cells slots Q (F0 m (pc + 3) ls (.ref (adr G 6) :: rest))) : W p l e R s m args below meth c H locs cells slots Q (F0 m pc ls (.ref (adr G 0) :: rest)) :=
  x_get (Cn := RX7) (T := TX7) (n := 28) C h inX7 (k := 0) (by decide) rfl rfl 10 (by decide) uFL_RX7_25 rfl hdg kk
theorem gf_RX7_28 (C : Cx G RX7 cc nL p s m args c) (h : HM G A H0 S H locs) (hdg : decode cc pc = .ok (.getfield 28, 3)) (kk : W p l e R s m args below meth c H locs cells slots Q (F0 m (pc + 3) ls (.ref (adr G 7) :: rest))) : W p l e R s m args below meth c H locs cells slots Q (F0 m pc ls (.ref (adr G 0) :: rest)) :=
  x_get (Cn := RX7) (T := TX7) (n := 28) C h inX7 (k := 0) (by decide) rfl rfl 11 (by decide) uFL_RX7_28 rfl hdg kk
theorem gf_RX7_31 (C : Cx G RX7 cc nL p s m args c) (h : HM G A H0 S H locs) (hdg : decode cc pc = .ok (.getfield 31, 3)) (kk : W p l e R s m args below meth c H locs cells slots Q (F0 m (pc + 3) ls (.ref (adr G 8) :: rest))) : W p l e R s m args below meth c H locs cells slots Q (F0 m pc ls (.ref (adr G 0) :: rest)) :=
  x_get (Cn := RX7) (T := TX7) (n := 28) C h inX7 (k := 0) (by decide) rfl rfl 12 (by decide) uFL_RX7_31 rfl hdg kk
theorem gf_RX7_34 (C : Cx G RX7 cc nL p s m args c) (h : HM G A H0 S H locs) (hdg : decode cc pc = .ok (.getfield 34, 3)) (kk : W p l e R s m args below meth c H locs cells slots Q (F0 m (pc + 3) ls (.ref (adr G 9) :: rest))) : W p l e R s m args below meth c H locs cells slots Q (F0 m pc ls (.ref (adr G 0) :: rest)) :=
  x_get (Cn := RX7) (T := TX7) (n := 28) C h inX7 (k := 0) (by decide) rfl rfl 13 (by decide) uFL_RX7_34 rfl hdg kk
theorem gf_RX7_37 (C : Cx G RX7 cc nL p s m args c) (h : HM G A H0 S H locs) (hdg : decode cc pc = .ok (.getfield 37, 3)) (kk : W p l e R s m args below meth c H locs cells slots Q (F0 m (pc + 3) ls (.ref (adr G 10) :: rest))) : W p l e R s m args below meth c H locs cells slots Q (F0 m pc ls (.ref (adr G 0) :: rest)) :=
  x_get (Cn := RX7) (T := TX7) (n := 28) C h inX7 (k := 0) (by decide) rfl rfl 17 (by decide) uFL_RX7_37 rfl hdg kk
theorem gf_RX7_40 (C : Cx G RX7 cc nL p s m args c) (h : HM G A H0 S H locs) (hdg : decode cc pc = .ok (.getfield 40, 3)) (kk : W p l e R s m args below meth c H locs cells slots Q (F0 m (pc + 3) ls (.ref (adr G 11) :: rest))) : W p l e R s m args below meth c H locs cells slots Q (F0 m pc ls (.ref (adr G 0) :: rest)) :=
  x_get (Cn := RX7) (T := TX7) (n := 28) C h inX7 (k := 0) (by decide) rfl rfl 18 (by decide) uFL_RX7_40 rfl hdg kk
theorem gf_RX7_43 (C : Cx G RX7 cc nL p s m args c) (h : HM G A H0 S H locs) (hdg : decode cc pc = .ok (.getfield 43, 3)) (kk : W p l e R s m args below meth c H locs cells slots Q (F0 m (pc + 3) ls (.ref (adr G 12) :: rest))) : W p l e R s m args below meth c H locs cells slots Q (F0 m pc ls (.ref (adr G 0) :: rest)) :=
  x_get (Cn := RX7) (T := TX7) (n := 28) C h inX7 (k := 0) (by decide) rfl rfl 19 (by decide) uFL_RX7_43 rfl hdg kk
theorem gf_RX7_46 (C : Cx G RX7 cc nL p s m args c) (h : HM G A H0 S H locs) (hdg : decode cc pc = .ok (.getfield 46, 3)) (kk : W p l e R s m args below meth c H locs cells slots Q (F0 m (pc + 3) ls (.ref (adr G 13) :: rest))) : W p l e R s m args below meth c H locs cells slots Q (F0 m pc ls (.ref (adr G 0) :: rest)) :=
  x_get (Cn := RX7) (T := TX7) (n := 28) C h inX7 (k := 0) (by decide) rfl rfl 22 (by decide) uFL_RX7_46 rfl hdg kk
theorem gf_RX7_49 (C : Cx G RX7 cc nL p s m args c) (h : HM G A H0 S H locs) (hdg : decode cc pc = .ok (.getfield 49, 3)) (kk : W p l e R s m args below meth c H locs cells slots Q (F0 m (pc + 3) ls (.ref (adr G 14) :: rest))) : W p l e R s m args below meth c H locs cells slots Q (F0 m pc ls (.ref (adr G 0) :: rest)) :=
  x_get (Cn := RX7) (T := TX7) (n := 28) C h inX7 (k := 0) (by decide) rfl rfl 23 (by decide) uFL_RX7_49 rfl hdg kk
theorem gf_RX7_52 (C : Cx G RX7 cc nL p s m args c) (h : HM G A H0 S H locs) (hdg : decode cc pc = .ok (.getfield 52, 3)) (kk : W p l e R s m args below meth c H locs cells slots Q (F0 m (pc + 3) ls (.ref (adr G 15) :: rest))) : W p l e R s m args below meth c H locs cells slots Q (F0 m pc ls (.ref (adr G 0) :: rest)) :=
  x_get (Cn := RX7) (T := TX7) (n := 28) C h inX7 (k := 0) (by decide) rfl rfl 25 (by decide) uFL_RX7_52 rfl hdg kk
theorem gf_RX7_55 (C : Cx G RX7 cc nL p s m args c) (h : HM G A H0 S H locs) (hdg : decode cc pc = .ok (.getfield 55, 3)) (kk : W p l e R s m args below meth c H locs cells slots Q (F0 m (pc + 3) ls (.ref (adr G 16) :: rest))) : W p l e R s m args below meth c H locs cells slots Q (F0 m pc ls (.ref (adr G 0) :: rest)) :=
  x_get (Cn := RX7) (T := TX7) (n := 28) C h inX7 (k := 0) (by decide) rfl rfl 26 (by decide) uFL_RX7_55 rfl hdg kk
theorem gf_RX7_58 (C : Cx G RX7 cc nL p s m args c) (h : HM G A H0 S H locs) (hdg : decode cc pc = .ok (.getfield 58, 3)) (kk : W p l e R s m args below meth c H locs cells slots Q (F0 m (pc + 3) ls (.ref (adr G 17) :: rest))) : W p l e R s m args below meth c H locs cells slots Q (F0 m pc ls (.ref (adr G 0) :: rest)) :=
  x_get (Cn := RX7) (T := TX7) (n := 28) C h inX7 (k := 0) (by decide) rfl rfl 27 (by decide) uFL_RX7_58 rfl hdg kk
theorem gf_RX7_61 (C : Cx G RX7 cc nL p s m args c) (h : HM G A H0 S H locs) (hdg : decode cc pc = .ok (.getfield 61, 3)) (kk : W p l e R s m args below meth c H locs cells slots Q (F0 m (pc + 3) ls (.int (S 0 0) :: rest))) : W p l e R s m args below meth c H locs cells slots Q (F0 m pc ls (.ref (adr G 0) :: rest)) :=
  x_get (Cn := RX7) (T := TX7) (n := 28) C h inX7 (k := 0) (by decide) rfl rfl 0 (by decide) uFL_RX7_61 rfl hdg kk
theorem pf_RX7_61 (C : Cx G RX7 cc nL p s m args c) (h : HM G A H0 S H locs) (hdg : decode cc pc = .ok (.putfield 61, 3)) {v : Int32} (kk : ∀ (H1 : Heap) (locs1 : List Loc), HM G A H0 (up S 0 0 v) H1 locs1 → W p l e R s m args below meth c H1 locs1 cells slots Q (F0 m (pc + 3) ls rest)) : W p l e R s m args below meth c H locs cells slots Q (F0 m pc ls (.int v :: .ref (adr G 0) :: rest)) :=
  x_put (Cn := RX7) (T := TX7) (n := 28) C h inX7 tyX7 tyX7_ok nmX7 (k := 0) (by decide) rfl rfl 0 (by decide) uFL_RX7_61 rfl (by decide +kernel) (Nat.le_of_ble_eq_true rfl) rfl hdg kk
theorem gf_RX7_71 (C : Cx G RX7 cc nL p s m args c) (h : HM G A H0 S H locs) (hdg : decode cc pc = .ok (.getfield 71, 3)) (kk : W p l e R s m args below meth c H locs cells slots Q (F0 m (pc + 3) ls (.int (S 0 5) :: rest))) : W p l e R s m args below meth c H locs cells slots Q (F0 m pc ls (.ref (adr G 0) :: rest)) :=
  x_get (Cn := RX7) (T := TX7) (n := 28) C h inX7 (k := 0) (by decide) rfl rfl 5 (by decide) uFL_RX7_71 rfl hdg kk
theorem pf_RX7_71 (C : Cx G RX7 cc nL p s m args c) (h : HM G A H0 S H locs) (hdg : decode cc pc = .ok (.putfield 71, 3)) {v : Int32} (kk : ∀ (H1 : Heap) (locs1 : List Loc), HM G A H0 (up S 0 5 v) H1 locs1 → W p l e R s m args below meth c H1 locs1 cells slots Q (F0 m (pc + 3) ls rest)) : W p l e R s m args below meth c H locs cells slots Q (F0 m pc ls (.int v :: .ref (adr G 0) :: rest)) :=
  x_put (Cn := RX7) (T := TX7) (n := 28) C h inX7 tyX7 tyX7_ok nmX7 (k := 0) (by decide) rfl rfl 5 (by decide) uFL_RX7_71 rfl (by decide +kernel) (Nat.le_of_ble_eq_true rfl) rfl hdg kk
theorem gf_RX7_74 (C : Cx G RX7 cc nL p s m args c) (h : HM G A H0 S H locs) (hdg : decode cc pc = .ok (.getfield 74, 3)) (kk : W p l e R s m args below meth c H locs cells slots Q (F0 m (pc + 3) ls (.int (S 0 6) :: rest))) : W p l e R s m args below meth c H locs cells slots Q (F0 m pc ls (.ref (adr G 0) :: rest)) :=
  x_get (Cn := RX7) (T := TX7) (n := 28) C h inX7 (k := 0) (by decide) rfl rfl 6 (by decide) uFL_RX7_74 rfl hdg kk
theorem pf_RX7_74 (C : Cx G RX7 cc nL p s m args c) (h : HM G A H0 S H locs) (hdg : decode cc pc = .ok (.putfield 74, 3)) {v : Int32} (kk : ∀ (H1 : Heap) (locs1 : List Loc), HM G A H0 (up S 0 6 v) H1 locs1 → W p l e R s m args below meth c H1 locs1 cells slots Q (F0 m (pc + 3) ls rest)) : W p l e R s m args below meth c H locs cells slots Q (F0 m pc ls (.int v :: .ref (adr G 0) :: rest)) :=
  x_put (Cn := RX7) (T := TX7) (n := 28) C h inX7 tyX7 tyX7_ok nmX7 (k := 0) (by decide) rfl rfl 6 (by decide) uFL_RX7_74 rfl (by decide +kernel) (Nat.le_of_ble_eq_true rfl) rfl hdg kk
theorem gf_RX7_77 (C : Cx G RX7 cc nL p s m args c) (h : HM G A H0 S H locs) (hdg : decode cc pc = .ok (.getfield 77, 3)) (kk : W p l e R s m args below meth c H locs cells slots Q (F0 m (pc + 3) ls (.int (S 0 14) :: rest))) : W p l e R s m args below meth c H locs cells slots Q (F0 m pc ls (.ref (adr G 0) :: rest)) :=
  x_get (Cn := RX7) (T := TX7) (n := 28) C h inX7 (k := 0) (by decide) rfl rfl 14 (by decide) uFL_RX7_77 rfl hdg kk
theorem pf_RX7_77 (C : Cx G RX7 cc nL p s m args c) (h : HM G A H0 S H locs) (hdg : decode cc pc = .ok (.putfield 77, 3)) {v : Int32} (kk : ∀ (H1 : Heap) (locs1 : List Loc), HM G A H0 (up S 0 14 v) H1 locs1 → W p l e R s m args below meth c H1 locs1 cells slots Q (F0 m (pc + 3) ls rest)) : W p l e R s m args below meth c H locs cells slots Q (F0 m pc ls (.int v :: .ref (adr G 0) :: rest)) :=
  x_put (Cn := RX7) (T := TX7) (n := 28) C h inX7 tyX7 tyX7_ok nmX7 (k := 0) (by decide) rfl rfl 14 (by decide) uFL_RX7_77 rfl (by decide +kernel) (Nat.le_of_ble_eq_true rfl) rfl hdg kk
theorem gf_RX7_101 (C : Cx G RX7 cc nL p s m args c) (h : HM G A H0 S H locs) (hdg : decode cc pc = .ok (.getfield 101, 3)) (kk : W p l e R s m args below meth c H locs cells slots Q (F0 m (pc + 3) ls (.int (S 0 15) :: rest))) : W p l e R s m args below meth c H locs cells slots Q (F0 m pc ls (.ref (adr G 0) :: rest)) :=
  x_get (Cn := RX7) (T := TX7) (n := 28) C h inX7 (k := 0) (by decide) rfl rfl 15 (by decide) uFL_RX7_101 rfl hdg kk
theorem pf_RX7_101 (C : Cx G RX7 cc nL p s m args c) (h : HM G A H0 S H locs) (hdg : decode cc pc = .ok (.putfield 101, 3)) {v : Int32} (kk : ∀ (H1 : Heap) (locs1 : List Loc), HM G A H0 (up S 0 15 v) H1 locs1 → W p l e R s m args below meth c H1 locs1 cells slots Q (F0 m (pc + 3) ls rest)) : W p l e R s m args below meth c H locs cells slots Q (F0 m pc ls (.int v :: .ref (adr G 0) :: rest)) :=
  x_put (Cn := RX7) (T := TX7) (n := 28) C h inX7 tyX7 tyX7_ok nmX7 (k := 0) (by decide) rfl rfl 15 (by decide) uFL_RX7_101 rfl (by decide +kernel) (Nat.le_of_ble_eq_true rfl) rfl hdg kk
theorem gf_RX7_104 (C : Cx G RX7 cc nL p s m args c) (h : HM G A H0 S H locs) (hdg : decode cc pc = .ok (.getfield 104, 3)) (kk : W p l e R s m args below meth c H locs cells slots Q (F0 m (pc + 3) ls (.int (S 0 16) :: rest))) : W p l e R s m args below meth c H locs cells slots Q (F0 m pc ls (.ref (adr G 0) :: rest)) :=
  x_get (Cn := RX7) (T := TX7) (n := 28) C h inX7 (k := 0) (by decide) rfl rfl 16 (by decide) uFL_RX7_104 rfl hdg kk
theorem pf_RX7_104 (C : Cx G RX7 cc nL p s m args c) (h : HM G A H0 S H locs) (hdg : decode cc pc = .ok (.putfield 104, 3)) {v : Int32} (kk : ∀ (H1 : Heap) (locs1 : List Loc), HM G A H0 (up S 0 16 v) H1 locs1 → W p l e R s m args below meth c H1 locs1 cells slots Q (F0 m (pc + 3) ls rest)) : W p l e R s m args below meth c H locs cells slots Q (F0 m pc ls (.int v :: .ref (adr G 0) :: rest)) :=
  x_put (Cn := RX7) (T := TX7) (n := 28) C h inX7 tyX7 tyX7_ok nmX7 (k := 0) (by decide) rfl rfl 16 (by decide) uFL_RX7_104 rfl (by decide +kernel) (Nat.le_of_ble_eq_true rfl) rfl hdg kk
theorem gf_RX7_107 (C : Cx G RX7 cc nL p s m args c) (h : HM G A H0 S H locs) (hdg : decode cc pc = .ok (.getfield 107, 3)) (kk : W p l e R s m args below meth c H locs cells slots Q (F0 m (pc + 3) ls (.int (S 0 7) :: rest))) : W p l e R s m args below meth c H locs cells slots Q (F0 m pc ls (.ref (adr G 0) :: rest)) :=
  x_get (Cn := RX7) (T := TX7) (n := 28) C h inX7 (k := 0) (by decide) rfl rfl 7 (by decide) uFL_RX7_107 rfl hdg kk
theorem pf_RX7_107 (C : Cx G RX7 cc nL p s m args c) (h : HM G A H0 S H locs) (hdg : decode cc pc = .ok (.putfield 107, 3)) {v : Int32} (kk : ∀ (H1 : Heap) (locs1 : List Loc), HM G A H0 (up S 0 7 v) H1 locs1 → W p l e R s m args below meth c H1 locs1 cells slots Q (F0 m (pc + 3) ls rest)) : W p l e R s m args below meth c H locs cells slots Q (F0 m pc ls (.int v :: .ref (adr G 0) :: rest)) :=
  x_put (Cn := RX7) (T := TX7) (n := 28) C h inX7 tyX7 tyX7_ok nmX7 (k := 0) (by decide) rfl rfl 7 (by decide) uFL_RX7_107 rfl (by decide +kernel) (Nat.le_of_ble_eq_true rfl) rfl hdg kk
theorem gf_RX7_110 (C : Cx G RX7 cc nL p s m args c) (h : HM G A H0 S H locs) (hdg : decode cc pc = .ok (.getfield 110, 3)) (kk : W p l e R s m args below meth c H locs cells slots Q (F0 m (pc + 3) ls (.int (S 0 24) :: rest))) : W p l e R s m args below meth c H locs cells slots Q (F0 m pc ls (.ref (adr G 0) :: rest)) :=
  x_get (Cn := RX7) (T := TX7) (n := 28) C h inX7 (k := 0) (by decide) rfl rfl 24 (by decide) uFL_RX7_110 rfl hdg kk
theorem pf_RX7_110 (C : Cx G RX7 cc nL p s m args c) (h : HM G A H0 S H locs) (hdg : decode cc pc = .ok (.putfield 110, 3)) {v : Int32} (kk : ∀ (H1 : Heap) (locs1 : List Loc), HM G A H0 (up S 0 24 v) H1 locs1 → W p l e R s m args below meth c H1 locs1 cells slots Q (F0 m (pc + 3) ls rest)) : W p l e R s m args below meth c H locs cells slots Q (F0 m pc ls (.int v :: .ref (adr G 0) :: rest)) :=
  x_put (Cn := RX7) (T := TX7) (n := 28) C h inX7 tyX7 tyX7_ok nmX7 (k := 0) (by decide) rfl rfl 24 (by decide) uFL_RX7_110 rfl (by decide +kernel) (Nat.le_of_ble_eq_true rfl) rfl hdg kk
theorem gf_RX7_147 (C : Cx G RX7 cc nL p s m args c) (h : HM G A H0 S H locs) (hdg : decode cc pc = .ok (.getfield 147, 3)) (kk : W p l e R s m args below meth c H locs cells slots Q (F0 m (pc + 3) ls (.int (S 0 20) :: rest))) : W p l e R s m args below meth c H locs cells slots Q (F0 m pc ls (.ref (adr G 0) :: rest)) :=
  x_get (Cn := RX7) (T := TX7) (n := 28) C h inX7 (k := 0) (by decide) rfl rfl 20 (by decide) uFL_RX7_147 rfl hdg kk
theorem pf_RX7_147 (C : Cx G RX7 cc nL p s m args c) (h : HM G A H0 S H locs) (hdg : decode cc pc = .ok (.putfield 147, 3)) {v : Int32} (kk : ∀ (H1 : Heap) (locs1 : List Loc), HM G A H0 (up S 0 20 v) H1 locs1 → W p l e R s m args below meth c H1 locs1 cells slots Q (F0 m (pc + 3) ls rest)) : W p l e R s m args below meth c H locs cells slots Q (F0 m pc ls (.int v :: .ref (adr G 0) :: rest)) :=
  x_put (Cn := RX7) (T := TX7) (n := 28) C h inX7 tyX7 tyX7_ok nmX7 (k := 0) (by decide) rfl rfl 20 (by decide) uFL_RX7_147 rfl (by decide +kernel) (Nat.le_of_ble_eq_true rfl) rfl hdg kk
theorem gf_RX7_150 (C : Cx G RX7 cc nL p s m args c) (h : HM G A H0 S H locs) (hdg : decode cc pc = .ok (.getfield 150, 3)) (kk : W p l e R s m args below meth c H locs cells slots Q (F0 m (pc + 3) ls (.int (S 0 21) :: rest))) : W p l e R s m args below meth c H locs cells slots Q (F0 m pc ls (.ref (adr G 0) :: rest)) :=
  x_get (Cn := RX7) (T := TX7) (n := 28) C h inX7 (k := 0) (by decide) rfl rfl 21 (by decide) uFL_RX7_150 rfl hdg kk
theorem pf_RX7_150 (C : Cx G RX7 cc nL p s m args c) (h : HM G A H0 S H locs) (hdg : decode cc pc = .ok (.putfield 150, 3)) {v : Int32} (kk : ∀ (H1 : Heap) (locs1 : List Loc), HM G A H0 (up S 0 21 v) H1 locs1 → W p l e R s m args below meth c H1 locs1 cells slots Q (F0 m (pc + 3) ls rest)) : W p l e R s m args below meth c H locs cells slots Q (F0 m pc ls (.int v :: .ref (adr G 0) :: rest)) :=
  x_put (Cn := RX7) (T := TX7) (n := 28) C h inX7 tyX7 tyX7_ok nmX7 (k := 0) (by decide) rfl rfl 21 (by decide) uFL_RX7_150 rfl (by decide +kernel) (Nat.le_of_ble_eq_true rfl) rfl hdg kk
theorem gf_RX7_206 (C : Cx G RX7 cc nL p s m args c) (h : HM G A H0 S H locs) (hdg : decode cc pc = .ok (.getfield 206, 3)) (kk : W p l e R s m args below meth c H locs cells slots Q (F0 m (pc + 3) ls (.int (S 0 1) :: rest))) : W p l e R s m args below meth c H locs cells slots Q (F0 m pc ls (.ref (adr G 0) :: rest)) :=
  x_get (Cn := RX7) (T := TX7) (n := 28) C h inX7 (k := 0) (by decide) rfl rfl 1 (by decide) uFL_RX7_206 rfl hdg kk
theorem pf_RX7_206 (C : Cx G RX7 cc nL p s m args c) (h : HM G A H0 S H locs) (hdg : decode cc pc = .ok (.putfield 206, 3)) {v : Int32} (kk : ∀ (H1 : Heap) (locs1 : List Loc), HM G A H0 (up S 0 1 v) H1 locs1 → W p l e R s m args below meth c H1 locs1 cells slots Q (F0 m (pc + 3) ls rest)) : W p l e R s m args below meth c H locs cells slots Q (F0 m pc ls (.int v :: .ref (adr G 0) :: rest)) :=
  x_put (Cn := RX7) (T := TX7) (n := 28) C h inX7 tyX7 tyX7_ok nmX7 (k := 0) (by decide) rfl rfl 1 (by decide) uFL_RX7_206 rfl (by decide +kernel) (Nat.le_of_ble_eq_true rfl) rfl hdg kk
end ROWS2
theorem cv_RX0_36 : CV RX0 36 yX4_at cX4_at 2 (some .int) 1 := ⟨gU uML_RX0_36 uIM_X4_at uSEL_X4_at uINI_RX4 uCO_X4_at, by decide +kernel⟩
theorem cv_RX0_42 : CV RX0 42 yX0_happens cX0_happens 5 (some .boolean) 3 := ⟨gU uML_RX0_42 uIM_X0_happens uSEL_X0_happens uINI_RX0 uCO_X0_happens, by decide +kernel⟩
theorem cv_RX0_46 : CV RX0 46 yX1_darkIn cX1_darkIn 4 (some .int) 1 := ⟨gU uML_RX0_46 uIM_X1_darkIn uSEL_X1_darkIn uINI_RX1 uCO_X1_darkIn, by decide +kernel⟩
theorem cv_RX0_53 : CV RX0 53 yX1_hasShade cX1_hasShade 3 (some .boolean) 2 := ⟨gU uML_RX0_53 uIM_X1_hasShade uSEL_X1_hasShade uINI_RX1 uCO_X1_hasShade, by decide +kernel⟩
theorem cv_RX0_57 : CV RX0 57 yX1_hasSwitch cX1_hasSwitch 2 (some .boolean) 1 := ⟨gU uML_RX0_57 uIM_X1_hasSwitch uSEL_X1_hasSwitch uINI_RX1 uCO_X1_hasSwitch, by decide +kernel⟩
theorem cv_RX0_61 : CV RX0 61 yX1_turnOn cX1_turnOn 5 none 3 := ⟨gU uML_RX0_61 uIM_X1_turnOn uSEL_X1_turnOn uINI_RX1 uCO_X1_turnOn, by decide +kernel⟩
theorem cv_RX1_37 : CV RX1 37 yX1_hasLamp cX1_hasLamp 2 (some .boolean) 1 := ⟨gU uML_RX1_37 uIM_X1_hasLamp uSEL_X1_hasLamp uINI_RX1 uCO_X1_hasLamp, by decide +kernel⟩
theorem cv_RX1_41 : CV RX1 41 yX1_isWired cX1_isWired 3 (some .boolean) 2 := ⟨gU uML_RX1_41 uIM_X1_isWired uSEL_X1_isWired uINI_RX1 uCO_X1_isWired, by decide +kernel⟩
theorem cv_RX1_45 : CV RX1 45 yX1_moves cX1_moves 2 (some .int) 1 := ⟨gU uML_RX1_45 uIM_X1_moves uSEL_X1_moves uINI_RX1 uCO_X1_moves, by decide +kernel⟩
theorem cv_RX1_53 : CV RX1 53 yX1_stepOf cX1_stepOf 3 (some .int) 2 := ⟨gU uML_RX1_53 uIM_X1_stepOf uSEL_X1_stepOf uINI_RX1 uCO_X1_stepOf, by decide +kernel⟩
theorem cv_RX1_56 : CV RX1 56 yX1_darkIn cX1_darkIn 4 (some .int) 1 := ⟨gU uML_RX1_56 uIM_X1_darkIn uSEL_X1_darkIn uINI_RX1 uCO_X1_darkIn, by decide +kernel⟩
theorem cv_RX1_60 : CV RX1 60 yX1_turnOn cX1_turnOn 5 none 3 := ⟨gU uML_RX1_60 uIM_X1_turnOn uSEL_X1_turnOn uINI_RX1 uCO_X1_turnOn, by decide +kernel⟩
theorem cv_RX1_64 : CV RX1 64 yX1_darkRows cX1_darkRows 5 (some .int) 2 := ⟨gU uML_RX1_64 uIM_X1_darkRows uSEL_X1_darkRows uINI_RX1 uCO_X1_darkRows, by decide +kernel⟩
theorem cv_RX2_33 : CV RX2 33 yX2_spread cX2_spread 7 none 2 := ⟨gU uML_RX2_33 uIM_X2_spread uSEL_X2_spread uINI_RX2 uCO_X2_spread, by decide +kernel⟩
theorem cv_RX2_40 : CV RX2 40 yX1_allSwitches cX1_allSwitches 1 (some .int) 0 := ⟨gU uML_RX2_40 uIM_X1_allSwitches uSEL_X1_allSwitches uINI_RX1 uCO_X1_allSwitches, by decide +kernel⟩
theorem cv_RX2_46 : CV RX2 46 yX2_numberOf cX2_numberOf 6 (some .int) 2 := ⟨gU uML_RX2_46 uIM_X2_numberOf uSEL_X2_numberOf uINI_RX2 uCO_X2_numberOf, by decide +kernel⟩
theorem cv_RX2_50 : CV RX2 50 yX2_fewestTo cX2_fewestTo 2 (some .int) 1 := ⟨gU uML_RX2_50 uIM_X2_fewestTo uSEL_X2_fewestTo uINI_RX2 uCO_X2_fewestTo, by decide +kernel⟩
theorem cv_RX2_54 : CV RX2 54 yX2_splitUp cX2_splitUp 6 none 2 := ⟨gU uML_RX2_54 uIM_X2_splitUp uSEL_X2_splitUp uINI_RX2 uCO_X2_splitUp, by decide +kernel⟩
theorem cv_RX2_60 : CV RX2 60 yX2_numberBy cX2_numberBy 7 (some .int) 3 := ⟨gU uML_RX2_60 uIM_X2_numberBy uSEL_X2_numberBy uINI_RX2 uCO_X2_numberBy, by decide +kernel⟩
theorem cv_RX2_64 : CV RX2 64 yX2_pressesFor cX2_pressesFor 3 (some .int) 2 := ⟨gU uML_RX2_64 uIM_X2_pressesFor uSEL_X2_pressesFor uINI_RX2 uCO_X2_pressesFor, by decide +kernel⟩
theorem cv_RX2_67 : CV RX2 67 yX2_firstThatLeaves cX2_firstThatLeaves 4 (some .int) 2 := ⟨gU uML_RX2_67 uIM_X2_firstThatLeaves uSEL_X2_firstThatLeaves uINI_RX2 uCO_X2_firstThatLeaves, by decide +kernel⟩
theorem cv_RX2_71 : CV RX2 71 yX2_measure cX2_measure 5 (some .int) 1 := ⟨gU uML_RX2_71 uIM_X2_measure uSEL_X2_measure uINI_RX2 uCO_X2_measure, by decide +kernel⟩
theorem cv_RX2_75 : CV RX2 75 yX2_meet cX2_meet 3 none 2 := ⟨gU uML_RX2_75 uIM_X2_meet uSEL_X2_meet uINI_RX2 uCO_X2_meet, by decide +kernel⟩
theorem cv_RX2_85 : CV RX2 85 yX1_stepOf cX1_stepOf 3 (some .int) 2 := ⟨gU uML_RX2_85 uIM_X1_stepOf uSEL_X1_stepOf uINI_RX1 uCO_X1_stepOf, by decide +kernel⟩
theorem cs_RX2_89 : CSt RX2 89 yJ9_max_7cf53 cJ9_max_7cf53 2 (some .int) 2 := ⟨uML_RX2_89, uST_J9_max_7cf53, uINI_RJ9, uCO_J9_max_7cf53, by decide +kernel⟩
theorem cv_RX3_25 : CV RX3 25 yX1_stepOf cX1_stepOf 3 (some .int) 2 := ⟨gU uML_RX3_25 uIM_X1_stepOf uSEL_X1_stepOf uINI_RX1 uCO_X1_stepOf, by decide +kernel⟩
theorem cs_RX4_22 : CSt RX4 22 yJ9_min_7cf53 cJ9_min_7cf53 2 (some .int) 2 := ⟨uML_RX4_22, uST_J9_min_7cf53, uINI_RJ9, uCO_J9_min_7cf53, by decide +kernel⟩
theorem cs_RX4_28 : CSt RX4 28 yJ9_max_7cf53 cJ9_max_7cf53 2 (some .int) 2 := ⟨uML_RX4_28, uST_J9_max_7cf53, uINI_RJ9, uCO_J9_max_7cf53, by decide +kernel⟩
theorem cv_RX4_31 : CV RX4 31 yX4_isNothing cX4_isNothing 1 (some .boolean) 0 := ⟨gU uML_RX4_31 uIM_X4_isNothing uSEL_X4_isNothing uINI_RX4 uCO_X4_isNothing, by decide +kernel⟩
theorem cv_RX4_35 : CV RX4 35 yX4_faultAs cX4_faultAs 2 (some .int) 1 := ⟨gU uML_RX4_35 uIM_X4_faultAs uSEL_X4_faultAs uINI_RX4 uCO_X4_faultAs, by decide +kernel⟩
theorem cv_RX4_39 : CV RX4 39 yX4_hasCells cX4_hasCells 3 (some .boolean) 2 := ⟨gU uML_RX4_39 uIM_X4_hasCells uSEL_X4_hasCells uINI_RX4 uCO_X4_hasCells, by decide +kernel⟩
theorem cv_RX4_43 : CV RX4 43 yX4_cut cX4_cut 2 (some .int) 1 := ⟨gU uML_RX4_43 uIM_X4_cut uSEL_X4_cut uINI_RX4 uCO_X4_cut, by decide +kernel⟩
theorem cs_RX5_15 : CSt RX5 15 yJ9_min_7cf53 cJ9_min_7cf53 2 (some .int) 2 := ⟨uML_RX5_15, uST_J9_min_7cf53, uINI_RJ9, uCO_J9_min_7cf53, by decide +kernel⟩
theorem cv_RX5_25 : CV RX5 25 yX4_at cX4_at 2 (some .int) 1 := ⟨gU uML_RX5_25 uIM_X4_at uSEL_X4_at uINI_RX4 uCO_X4_at, by decide +kernel⟩
theorem cv_RX5_31 : CV RX5 31 yX5_codeAt cX5_codeAt 2 (some .int) 1 := ⟨gU uML_RX5_31 uIM_X5_codeAt uSEL_X5_codeAt uINI_RX5 uCO_X5_codeAt, by decide +kernel⟩
theorem cv_RX5_41 : CV RX5 41 yX5_isDigit cX5_isDigit 4 (some .boolean) 3 := ⟨gU uML_RX5_41 uIM_X5_isDigit uSEL_X5_isDigit uINI_RX5 uCO_X5_isDigit, by decide +kernel⟩
theorem cv_RX5_48 : CV RX5 48 yX5_placeOf cX5_placeOf 2 (some .int) 1 := ⟨gU uML_RX5_48 uIM_X5_placeOf uSEL_X5_placeOf uINI_RX5 uCO_X5_placeOf, by decide +kernel⟩
theorem cv_RX5_51 : CV RX5 51 yX5_faultInSwitch cX5_faultInSwitch 3 (some .int) 1 := ⟨gU uML_RX5_51 uIM_X5_faultInSwitch uSEL_X5_faultInSwitch uINI_RX5 uCO_X5_faultInSwitch, by decide +kernel⟩
theorem cs_RX5_54 : CSt RX5 54 yX5_kindOf cX5_kindOf 1 (some .int) 1 := ⟨uML_RX5_54, uST_X5_kindOf, uINI_RX5, uCO_X5_kindOf, by decide +kernel⟩
theorem cv_RX5_76 : CV RX5 76 yX5_wiresFrom cX5_wiresFrom 4 (some .int) 1 := ⟨gU uML_RX5_76 uIM_X5_wiresFrom uSEL_X5_wiresFrom uINI_RX5 uCO_X5_wiresFrom, by decide +kernel⟩
theorem cv_RX6_61 : CV RX6 61 yX6_sheetAt cX6_sheetAt 2 (some (.object "LampSwitches$Sheet")) 1 := ⟨gU uML_RX6_61 uIM_X6_sheetAt uSEL_X6_sheetAt uINI_RX6 uCO_X6_sheetAt, by decide +kernel⟩
theorem cs_RX6_65 : CSt RX6 65 yX6_isLane cX6_isLane 1 (some .boolean) 1 := ⟨uML_RX6_65, uST_X6_isLane, uINI_RX6, uCO_X6_isLane, by decide +kernel⟩
theorem cv_RX6_69 : CV RX6 69 yX4_faultAs cX4_faultAs 2 (some .int) 1 := ⟨gU uML_RX6_69 uIM_X4_faultAs uSEL_X4_faultAs uINI_RX4 uCO_X4_faultAs, by decide +kernel⟩
theorem cv_RX6_73 : CV RX6 73 yX4_hasCells cX4_hasCells 3 (some .boolean) 2 := ⟨gU uML_RX6_73 uIM_X4_hasCells uSEL_X4_hasCells uINI_RX4 uCO_X4_hasCells, by decide +kernel⟩
theorem cv_RX6_77 : CV RX6 77 yX6_faulted cX6_faulted 2 (some .int) 1 := ⟨gU uML_RX6_77 uIM_X6_faulted uSEL_X6_faulted uINI_RX6 uCO_X6_faulted, by decide +kernel⟩
theorem cv_RX6_80 : CV RX6 80 yX5_take cX5_take 5 none 3 := ⟨gU uML_RX6_80 uIM_X5_take uSEL_X5_take uINI_RX5 uCO_X5_take, by decide +kernel⟩
theorem cv_RX6_84 : CV RX6 84 yX5_firstFault cX5_firstFault 2 (some .int) 0 := ⟨gU uML_RX6_84 uIM_X5_firstFault uSEL_X5_firstFault uINI_RX5 uCO_X5_firstFault, by decide +kernel⟩
theorem cv_RX6_88 : CV RX6 88 yX5_layOut cX5_layOut 4 none 1 := ⟨gU uML_RX6_88 uIM_X5_layOut uSEL_X5_layOut uINI_RX5 uCO_X5_layOut, by decide +kernel⟩
theorem cv_RX6_95 : CV RX6 95 yX2_forget cX2_forget 1 none 0 := ⟨gU uML_RX6_95 uIM_X2_forget uSEL_X2_forget uINI_RX2 uCO_X2_forget, by decide +kernel⟩
theorem cv_RX6_101 : CV RX6 101 yX1_hasLamp cX1_hasLamp 2 (some .boolean) 1 := ⟨gU uML_RX6_101 uIM_X1_hasLamp uSEL_X1_hasLamp uINI_RX1 uCO_X1_hasLamp, by decide +kernel⟩
theorem cv_RX6_110 : CV RX6 110 yX1_switchesTo cX1_switchesTo 4 (some .int) 1 := ⟨gU uML_RX6_110 uIM_X1_switchesTo uSEL_X1_switchesTo uINI_RX1 uCO_X1_switchesTo, by decide +kernel⟩
theorem cv_RX6_113 : CV RX6 113 yX1_hasSwitch cX1_hasSwitch 2 (some .boolean) 1 := ⟨gU uML_RX6_113 uIM_X1_hasSwitch uSEL_X1_hasSwitch uINI_RX1 uCO_X1_hasSwitch, by decide +kernel⟩
theorem cv_RX6_122 : CV RX6 122 yX1_moves cX1_moves 2 (some .int) 1 := ⟨gU uML_RX6_122 uIM_X1_moves uSEL_X1_moves uINI_RX1 uCO_X1_moves, by decide +kernel⟩
theorem cv_RX6_131 : CV RX6 131 yX1_hasShade cX1_hasShade 3 (some .boolean) 2 := ⟨gU uML_RX6_131 uIM_X1_hasShade uSEL_X1_hasShade uINI_RX1 uCO_X1_hasShade, by decide +kernel⟩
theorem cs_RX6_134 : CSt RX6 134 yX6_isIn cX6_isIn 3 (some .boolean) 3 := ⟨uML_RX6_134, uST_X6_isIn, uINI_RX6, uCO_X6_isIn, by decide +kernel⟩
theorem cv_RX6_138 : CV RX6 138 yX1_isWired cX1_isWired 3 (some .boolean) 2 := ⟨gU uML_RX6_138 uIM_X1_isWired uSEL_X1_isWired uINI_RX1 uCO_X1_isWired, by decide +kernel⟩
theorem cv_RX6_141 : CV RX6 141 yX1_turnOn cX1_turnOn 5 none 3 := ⟨gU uML_RX6_141 uIM_X1_turnOn uSEL_X1_turnOn uINI_RX1 uCO_X1_turnOn, by decide +kernel⟩
theorem cv_RX6_145 : CV RX6 145 yX1_darkIn cX1_darkIn 4 (some .int) 1 := ⟨gU uML_RX6_145 uIM_X1_darkIn uSEL_X1_darkIn uINI_RX1 uCO_X1_darkIn, by decide +kernel⟩
theorem cs_RX6_149 : CSt RX6 149 yX6_isAskedOfDay cX6_isAskedOfDay 1 (some .boolean) 1 := ⟨uML_RX6_149, uST_X6_isAskedOfDay, uINI_RX6, uCO_X6_isAskedOfDay, by decide +kernel⟩
theorem cv_RX6_152 : CV RX6 152 yX4_faultOfCells cX4_faultOfCells 5 (some .int) 3 := ⟨gU uML_RX6_152 uIM_X4_faultOfCells uSEL_X4_faultOfCells uINI_RX4 uCO_X4_faultOfCells, by decide +kernel⟩
theorem cv_RX6_156 : CV RX6 156 yX1_isMissing cX1_isMissing 1 (some .boolean) 0 := ⟨gU uML_RX6_156 uIM_X1_isMissing uSEL_X1_isMissing uINI_RX1 uCO_X1_isMissing, by decide +kernel⟩
theorem cv_RX6_160 : CV RX6 160 yX6_refusalOfPairs cX6_refusalOfPairs 6 (some .int) 3 := ⟨gU uML_RX6_160 uIM_X6_refusalOfPairs uSEL_X6_refusalOfPairs uINI_RX6 uCO_X6_refusalOfPairs, by decide +kernel⟩
theorem cv_RX6_164 : CV RX6 164 yX0_goThrough cX0_goThrough 6 none 4 := ⟨gU uML_RX6_164 uIM_X0_goThrough uSEL_X0_goThrough uINI_RX0 uCO_X0_goThrough, by decide +kernel⟩
theorem cv_RX6_168 : CV RX6 168 yX6_ofDay cX6_ofDay 3 (some .int) 1 := ⟨gU uML_RX6_168 uIM_X6_ofDay uSEL_X6_ofDay uINI_RX6 uCO_X6_ofDay, by decide +kernel⟩
theorem cv_RX6_171 : CV RX6 171 yX4_at cX4_at 2 (some .int) 1 := ⟨gU uML_RX6_171 uIM_X4_at uSEL_X4_at uINI_RX4 uCO_X4_at, by decide +kernel⟩
theorem cv_RX6_174 : CV RX6 174 yX6_refusalOfPair cX6_refusalOfPair 3 (some .int) 2 := ⟨gU uML_RX6_174 uIM_X6_refusalOfPair uSEL_X6_refusalOfPair uINI_RX6 uCO_X6_refusalOfPair, by decide +kernel⟩
theorem cv_RX6_184 : CV RX6 184 yX1_shadesIn cX1_shadesIn 4 (some .int) 1 := ⟨gU uML_RX6_184 uIM_X1_shadesIn uSEL_X1_shadesIn uINI_RX1 uCO_X1_shadesIn, by decide +kernel⟩
theorem cs_RX6_196 : CSt RX6 196 yX6_wrapped cX6_wrapped 2 (some .int) 2 := ⟨uML_RX6_196, uST_X6_wrapped, uINI_RX6, uCO_X6_wrapped, by decide +kernel⟩
theorem cv_RX6_199 : CV RX6 199 yX2_pressesFor cX2_pressesFor 3 (some .int) 2 := ⟨gU uML_RX6_199 uIM_X2_pressesFor uSEL_X2_pressesFor uINI_RX2 uCO_X2_pressesFor, by decide +kernel⟩
theorem cv_RX6_203 : CV RX6 203 yX2_placeInRow cX2_placeInRow 8 (some .int) 3 := ⟨gU uML_RX6_203 uIM_X2_placeInRow uSEL_X2_placeInRow uINI_RX2 uCO_X2_placeInRow, by decide +kernel⟩
theorem cv_RX6_207 : CV RX6 207 yX1_allSwitches cX1_allSwitches 1 (some .int) 0 := ⟨gU uML_RX6_207 uIM_X1_allSwitches uSEL_X1_allSwitches uINI_RX1 uCO_X1_allSwitches, by decide +kernel⟩
theorem cv_RX6_210 : CV RX6 210 yX2_manyBy cX2_manyBy 3 (some .int) 2 := ⟨gU uML_RX6_210 uIM_X2_manyBy uSEL_X2_manyBy uINI_RX2 uCO_X2_manyBy, by decide +kernel⟩
theorem cv_RX6_214 : CV RX6 214 yX2_pressesForNothing cX2_pressesForNothing 5 (some .int) 1 := ⟨gU uML_RX6_214 uIM_X2_pressesForNothing uSEL_X2_pressesForNothing uINI_RX2 uCO_X2_pressesForNothing, by decide +kernel⟩
theorem cv_RX6_218 : CV RX6 218 yX3_add cX3_add 4 (some .int) 3 := ⟨gU uML_RX6_218 uIM_X3_add uSEL_X3_add uINI_RX3 uCO_X3_add, by decide +kernel⟩
theorem cv_RX6_221 : CV RX6 221 yX6_fitting cX6_fitting 8 (some .int) 4 := ⟨gU uML_RX6_221 uIM_X6_fitting uSEL_X6_fitting uINI_RX6 uCO_X6_fitting, by decide +kernel⟩
theorem cv_RX6_225 : CV RX6 225 yX3_areSo cX3_areSo 3 (some .boolean) 1 := ⟨gU uML_RX6_225 uIM_X3_areSo uSEL_X3_areSo uINI_RX3 uCO_X3_areSo, by decide +kernel⟩
theorem cv_RX6_237 : CV RX6 237 yX1_darkRows cX1_darkRows 5 (some .int) 2 := ⟨gU uML_RX6_237 uIM_X1_darkRows uSEL_X1_darkRows uINI_RX1 uCO_X1_darkRows, by decide +kernel⟩
theorem cs_RX6_241 : CSt RX6 241 yX6_commonDivisor cX6_commonDivisor 6 (some .int) 2 := ⟨uML_RX6_241, uST_X6_commonDivisor, uINI_RX6, uCO_X6_commonDivisor, by decide +kernel⟩
theorem cv_RX6_244 : CV RX6 244 yX4_begin cX4_begin 4 none 2 := ⟨gU uML_RX6_244 uIM_X4_begin uSEL_X4_begin uINI_RX4 uCO_X4_begin, by decide +kernel⟩
theorem cv_RX6_248 : CV RX6 248 yX4_isNothing cX4_isNothing 1 (some .boolean) 0 := ⟨gU uML_RX6_248 uIM_X4_isNothing uSEL_X4_isNothing uINI_RX4 uCO_X4_isNothing, by decide +kernel⟩
theorem cv_RX6_251 : CV RX6 251 yX4_end cX4_end 1 none 0 := ⟨gU uML_RX6_251 uIM_X4_end uSEL_X4_end uINI_RX4 uCO_X4_end, by decide +kernel⟩
theorem cv_RX6_254 : CV RX6 254 yX4_set cX4_set 3 none 2 := ⟨gU uML_RX6_254 uIM_X4_set uSEL_X4_set uINI_RX4 uCO_X4_set, by decide +kernel⟩
theorem cv_RX6_263 : CV RX6 263 yX6_doubleBody cX6_doubleBody 3 (some .int) 1 := ⟨gU uML_RX6_263 uIM_X6_doubleBody uSEL_X6_doubleBody uINI_RX6 uCO_X6_doubleBody, by decide +kernel⟩
theorem cv_RX6_266 : CV RX6 266 yX6_broadBody cX6_broadBody 2 (some .int) 1 := ⟨gU uML_RX6_266 uIM_X6_broadBody uSEL_X6_broadBody uINI_RX6 uCO_X6_broadBody, by decide +kernel⟩
theorem cv_RX6_269 : CV RX6 269 yX6_plainBody cX6_plainBody 2 (some .int) 1 := ⟨gU uML_RX6_269 uIM_X6_plainBody uSEL_X6_plainBody uINI_RX6 uCO_X6_plainBody, by decide +kernel⟩
theorem cv_RX6_272 : CV RX6 272 yX6_leave cX6_leave 2 none 1 := ⟨gU uML_RX6_272 uIM_X6_leave uSEL_X6_leave uINI_RX6 uCO_X6_leave, by decide +kernel⟩
theorem cv_RX6_276 : CV RX6 276 yX6_ownBody cX6_ownBody 1 (some .int) 0 := ⟨gU uML_RX6_276 uIM_X6_ownBody uSEL_X6_ownBody uINI_RX6 uCO_X6_ownBody, by decide +kernel⟩
theorem cv_RX6_279 : CV RX6 279 yX6_lentBody cX6_lentBody 2 (some .int) 1 := ⟨gU uML_RX6_279 uIM_X6_lentBody uSEL_X6_lentBody uINI_RX6 uCO_X6_lentBody, by decide +kernel⟩
theorem cv_RX6_285 : CV RX6 285 yX1_pressesInAll cX1_pressesInAll 3 (some .int) 0 := ⟨gU uML_RX6_285 uIM_X1_pressesInAll uSEL_X1_pressesInAll uINI_RX1 uCO_X1_pressesInAll, by decide +kernel⟩
theorem cs_RX6_288 : CSt RX6 288 yJ9_floorMod_7cf53 cJ9_floorMod_7cf53 3 (some .int) 2 := ⟨uML_RX6_288, uST_J9_floorMod_7cf53, uINI_RJ9, uCO_J9_floorMod_7cf53, by decide +kernel⟩
theorem cs_RX7_67 : CSt RX7 67 yX7_within cX7_within 3 (some .boolean) 3 := ⟨uML_RX7_67, uST_X7_within, uINI_RX7, uCO_X7_within, by decide +kernel⟩
theorem cs_RX7_80 : CSt RX7 80 yX7_isSheet cX7_isSheet 1 (some .boolean) 1 := ⟨uML_RX7_80, uST_X7_isSheet, uINI_RX7, uCO_X7_isSheet, by decide +kernel⟩
theorem cs_RX7_84 : CSt RX7 84 yX7_isSort cX7_isSort 1 (some .boolean) 1 := ⟨uML_RX7_84, uST_X7_isSort, uINI_RX7, uCO_X7_isSort, by decide +kernel⟩
theorem cv_RX7_87 : CV RX7 87 yX7_against cX7_against 5 (some .int) 4 := ⟨gU uML_RX7_87 uIM_X7_against uSEL_X7_against uINI_RX7 uCO_X7_against, by decide +kernel⟩
theorem cv_RX7_91 : CV RX7 91 yX7_fails cX7_fails 2 (some .int) 1 := ⟨gU uML_RX7_91 uIM_X7_fails uSEL_X7_fails uINI_RX7 uCO_X7_fails, by decide +kernel⟩
theorem cv_RX7_95 : CV RX7 95 yX7_readHall cX7_readHall 3 (some .boolean) 1 := ⟨gU uML_RX7_95 uIM_X7_readHall uSEL_X7_readHall uINI_RX7 uCO_X7_readHall, by decide +kernel⟩
theorem cv_RX7_98 : CV RX7 98 yX7_takeHall cX7_takeHall 2 none 0 := ⟨gU uML_RX7_98 uIM_X7_takeHall uSEL_X7_takeHall uINI_RX7 uCO_X7_takeHall, by decide +kernel⟩
theorem cv_RX7_113 : CV RX7 113 yX7_isSign cX7_isSign 3 (some .boolean) 2 := ⟨gU uML_RX7_113 uIM_X7_isSign uSEL_X7_isSign uINI_RX7 uCO_X7_isSign, by decide +kernel⟩
theorem cv_RX7_117 : CV RX7 117 yX7_digit cX7_digit 4 (some .int) 3 := ⟨gU uML_RX7_117 uIM_X7_digit uSEL_X7_digit uINI_RX7 uCO_X7_digit, by decide +kernel⟩
theorem cv_RX7_121 : CV RX7 121 yX7_readSwitch cX7_readSwitch 6 (some .boolean) 1 := ⟨gU uML_RX7_121 uIM_X7_readSwitch uSEL_X7_readSwitch uINI_RX7 uCO_X7_readSwitch, by decide +kernel⟩
theorem cs_RX7_124 : CSt RX7 124 yX7_isOf cX7_isOf 2 (some .boolean) 2 := ⟨uML_RX7_124, uST_X7_isOf, uINI_RX7, uCO_X7_isOf, by decide +kernel⟩
theorem cv_RX7_127 : CV RX7 127 yX7_isLamp cX7_isLamp 2 (some .boolean) 1 := ⟨gU uML_RX7_127 uIM_X7_isLamp uSEL_X7_isLamp uINI_RX7 uCO_X7_isLamp, by decide +kernel⟩
theorem cv_RX7_130 : CV RX7 130 yX7_wiredTo cX7_wiredTo 4 (some .int) 1 := ⟨gU uML_RX7_130 uIM_X7_wiredTo uSEL_X7_wiredTo uINI_RX7 uCO_X7_wiredTo, by decide +kernel⟩
theorem cv_RX7_133 : CV RX7 133 yX7_isSwitch cX7_isSwitch 2 (some .boolean) 1 := ⟨gU uML_RX7_133 uIM_X7_isSwitch uSEL_X7_isSwitch uINI_RX7 uCO_X7_isSwitch, by decide +kernel⟩
theorem cv_RX7_136 : CV RX7 136 yX7_movesOf cX7_movesOf 2 (some .int) 1 := ⟨gU uML_RX7_136 uIM_X7_movesOf uSEL_X7_movesOf uINI_RX7 uCO_X7_movesOf, by decide +kernel⟩
theorem cv_RX7_139 : CV RX7 139 yX7_turnsAll cX7_turnsAll 4 none 2 := ⟨gU uML_RX7_139 uIM_X7_turnsAll uSEL_X7_turnsAll uINI_RX7 uCO_X7_turnsAll, by decide +kernel⟩
theorem cv_RX7_143 : CV RX7 143 yX7_darkNow cX7_darkNow 3 (some .int) 0 := ⟨gU uML_RX7_143 uIM_X7_darkNow uSEL_X7_darkNow uINI_RX7 uCO_X7_darkNow, by decide +kernel⟩
theorem cv_RX7_153 : CV RX7 153 yX7_does cX7_does 4 (some .boolean) 2 := ⟨gU uML_RX7_153 uIM_X7_does uSEL_X7_does uINI_RX7 uCO_X7_does, by decide +kernel⟩
theorem cv_RX7_156 : CV RX7 156 yX7_refusesPair cX7_refusesPair 4 (some .int) 2 := ⟨gU uML_RX7_156 uIM_X7_refusesPair uSEL_X7_refusesPair uINI_RX7 uCO_X7_refusesPair, by decide +kernel⟩
theorem cv_RX7_160 : CV RX7 160 yX7_keep cX7_keep 2 none 0 := ⟨gU uML_RX7_160 uIM_X7_keep uSEL_X7_keep uINI_RX7 uCO_X7_keep, by decide +kernel⟩
theorem cv_RX7_163 : CV RX7 163 yX7_goDay cX7_goDay 4 (some .int) 2 := ⟨gU uML_RX7_163 uIM_X7_goDay uSEL_X7_goDay uINI_RX7 uCO_X7_goDay, by decide +kernel⟩
theorem cv_RX7_166 : CV RX7 166 yX7_tellDay cX7_tellDay 2 (some .int) 1 := ⟨gU uML_RX7_166 uIM_X7_tellDay uSEL_X7_tellDay uINI_RX7 uCO_X7_tellDay, by decide +kernel⟩
theorem cv_RX7_169 : CV RX7 169 yX7_putBack cX7_putBack 2 none 0 := ⟨gU uML_RX7_169 uIM_X7_putBack uSEL_X7_putBack uINI_RX7 uCO_X7_putBack, by decide +kernel⟩
theorem cv_RX7_172 : CV RX7 172 yX7_allShades cX7_allShades 3 (some .int) 0 := ⟨gU uML_RX7_172 uIM_X7_allShades uSEL_X7_allShades uINI_RX7 uCO_X7_allShades, by decide +kernel⟩
theorem cv_RX7_175 : CV RX7 175 yX7_manyOf cX7_manyOf 3 (some .int) 0 := ⟨gU uML_RX7_175 uIM_X7_manyOf uSEL_X7_manyOf uINI_RX7 uCO_X7_manyOf, by decide +kernel⟩
theorem cv_RX7_178 : CV RX7 178 yX7_movedBy cX7_movedBy 11 (some .int) 3 := ⟨gU uML_RX7_178 uIM_X7_movedBy uSEL_X7_movedBy uINI_RX7 uCO_X7_movedBy, by decide +kernel⟩
theorem cv_RX7_182 : CV RX7 182 yX7_findFar cX7_findFar 6 none 0 := ⟨gU uML_RX7_182 uIM_X7_findFar uSEL_X7_findFar uINI_RX7 uCO_X7_findFar, by decide +kernel⟩
theorem cv_RX7_185 : CV RX7 185 yX7_onTo cX7_onTo 5 (some .int) 1 := ⟨gU uML_RX7_185 uIM_X7_onTo uSEL_X7_onTo uINI_RX7 uCO_X7_onTo, by decide +kernel⟩
theorem cv_RX7_188 : CV RX7 188 yX7_fewestOf cX7_fewestOf 6 (some .int) 2 := ⟨gU uML_RX7_188 uIM_X7_fewestOf uSEL_X7_fewestOf uINI_RX7 uCO_X7_fewestOf, by decide +kernel⟩
theorem cv_RX7_191 : CV RX7 191 yX7_findMany cX7_findMany 8 (some .int) 1 := ⟨gU uML_RX7_191 uIM_X7_findMany uSEL_X7_findMany uINI_RX7 uCO_X7_findMany, by decide +kernel⟩
theorem cv_RX7_194 : CV RX7 194 yX7_areSo cX7_areSo 5 (some .boolean) 0 := ⟨gU uML_RX7_194 uIM_X7_areSo uSEL_X7_areSo uINI_RX7 uCO_X7_areSo, by decide +kernel⟩
theorem cs_RX7_198 : CSt RX7 198 yX7_inLeastTerms cX7_inLeastTerms 11 (some .long) 3 := ⟨uML_RX7_198, uST_X7_inLeastTerms, uINI_RX7, uCO_X7_inLeastTerms, by decide +kernel⟩
theorem cv_RX7_202 : CV RX7 202 yX7_lost cX7_lost 2 (some .long) 1 := ⟨gU uML_RX7_202 uIM_X7_lost uSEL_X7_lost uINI_RX7 uCO_X7_lost, by decide +kernel⟩
theorem cv_RX7_209 : CV RX7 209 yX7_begins cX7_begins 2 none 1 := ⟨gU uML_RX7_209 uIM_X7_begins uSEL_X7_begins uINI_RX7 uCO_X7_begins, by decide +kernel⟩
