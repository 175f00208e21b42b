def i_X6_alone_15 (S : St) (x1 : Int32) (x2 : Int32) : Option ((St × Int32) ⊕ (St × Int32)) :=
  if (S 1 0) ≤ x2 then (some (.inr (S, x2))) else (if x2 = x1 then (ck (okx x2 5) <| some (.inl (up S 21 (ix x2) ((1 : Int32)), x2 + (1 : Int32)))) else (ck (okx x2 5) <| some (.inl (up S 21 (ix x2) ((0 : Int32)), x2 + (1 : Int32)))))
set_option maxHeartbeats 4000000 in
set_option maxRecDepth 100000 in
theorem w_i_X6_alone_15 {G : Geo} {p : Program} {l : Launch} {e : Env} {s : State} {m : MethodId} {args : Array Value} {below : List Frame} {meth : Method} {c : Code} {A : Nat → Prop} {H0 : Heap} {Q : State → Prop} (C : Cx G RX6 cX6_alone 3 p s m args c) {S : St} {x1 : Int32} {x2 : Int32} {o : (St × Int32) ⊕ (St × Int32)} (h : i_X6_alone_15 S x1 x2 = some o) (Kn : ∀ q, o = .inl q → ∀ (H : Heap) (locs : List Loc) (ls : Array Slot), HX G A H0 q.1 H locs → lv_has ls 3 [(0, .ref (adr G 0)), (1, .int x1), (2, .int (q.2))] → W p l e (rmK 6) s m args below meth c H locs 0 0 Q (F0 m 15 ls [])) (Kt : ∀ q, o = .inr q → ∀ (H : Heap) (locs : List Loc) (ls : Array Slot), HX G A H0 q.1 H locs → lv_has ls 3 [(0, .ref (adr G 0))] → W p l e (rmK 6) s m args below meth c H locs 0 0 Q (F0 m 48 ls [])) : ∀ (H : Heap) (locs : List Loc) (ls : Array Slot), HX G A H0 S H locs → lv_has ls 3 [(0, .ref (adr G 0)), (1, .int x1), (2, .int x2)] → W p l e (rmK 6) s m args below meth c H locs 0 0 Q (F0 m 15 ls []) := by
  obtain ⟨hx, hb, -⟩ := id C
  intro H locs ls hW hl
  unfold i_X6_alone_15 at h
  refine lv_iload_n hx hb dX6_alone_15 rfl (lv_at hl 2 rfl) ?_
  refine lv_aload_n hx hb dX6_alone_16 rfl (lv_at hl 0 rfl) ?_
  refine gf_RX6_14 C hW dX6_alone_17 ?_
  refine gf_RX6_193 C hW dX6_alone_20 ?_
  refine lv_icmp_ge (tgt := 48) hx hb dX6_alone_23 (by decide) (fun b23 => ?_) (fun b23 => ?_)
  · have h := it_t b23 h
    obtain rfl := Option.some.inj h
    exact Kt _ rfl _ _ _ hW (lv_sub hl [0] rfl)
  · have h := it_f b23 h
    refine lv_aload_n hx hb dX6_alone_26 rfl (lv_at hl 0 rfl) ?_
    refine gf_RX6_52 C hW dX6_alone_27 ?_
    refine lv_iload_n hx hb dX6_alone_30 rfl (lv_at hl 2 rfl) ?_
    refine lv_iload_n hx hb dX6_alone_31 rfl (lv_at hl 2 rfl) ?_
    refine lv_iload_n hx hb dX6_alone_32 rfl (lv_at hl 1 rfl) ?_
    refine lv_icmp_ne (tgt := 40) hx hb dX6_alone_33 (by decide) (fun b33 => ?_) (fun b33 => ?_)
    · have h := it_f b33 h
      refine lv_iconst (v := 0) hx hb dX6_alone_40 (by decide) ?_
      obtain ⟨g41, h⟩ := ck_some h
      refine x_iast C hW (k := 21) (n := 5) (by decide) (fun _ => rfl) g41 dX6_alone_41 (fun H locs hW => ?_)
      refine lv_iinc (v := (x2 + (1 : Int32))) (lv' := [(2, .int (x2 + (1 : Int32))), (0, .ref (adr G 0)), (1, .int x1)]) hx hb dX6_alone_42 hl (k := 2) rfl rfl (by decide) rfl (fun ls hl => ?_)
      refine lv_goto (tgt := 15) hx hb dX6_alone_45 (by decide) ?_
      obtain rfl := Option.some.inj h
      exact Kn _ rfl _ _ _ hW (lv_sub hl [1, 2, 0] rfl)
    · have h := it_t b33 h
      refine lv_iconst (v := 1) hx hb dX6_alone_36 (by decide) ?_
      refine lv_goto (tgt := 41) hx hb dX6_alone_37 (by decide) ?_
      obtain ⟨g41, h⟩ := ck_some h
      refine x_iast C hW (k := 21) (n := 5) (by decide) (fun _ => rfl) g41 dX6_alone_41 (fun H locs hW => ?_)
      refine lv_iinc (v := (x2 + (1 : Int32))) (lv' := [(2, .int (x2 + (1 : Int32))), (0, .ref (adr G 0)), (1, .int x1)]) hx hb dX6_alone_42 hl (k := 2) rfl rfl (by decide) rfl (fun ls hl => ?_)
      refine lv_goto (tgt := 15) hx hb dX6_alone_45 (by decide) ?_
      obtain rfl := Option.some.inj h
      exact Kn _ rfl _ _ _ hW (lv_sub hl [1, 2, 0] rfl)
set_option maxHeartbeats 4000000 in
set_option maxRecDepth 100000 in
theorem l_i_X6_alone_15 {G : Geo} {p : Program} {l : Launch} {e : Env} {s : State} {m : MethodId} {args : Array Value} {below : List Frame} {meth : Method} {c : Code} {A : Nat → Prop} {H0 : Heap} {Q : State → Prop} (C : Cx G RX6 cX6_alone 3 p s m args c) {x1 : Int32} {n : Nat} {q0 : St × Int32} {u : St × Int32} (hq : iter (fun q : St × Int32 => i_X6_alone_15 q.1 x1 q.2) n q0 = some u) (Kt : (fun q : St × Int32 => ∀ (H : Heap) (locs : List Loc) (ls : Array Slot), HX G A H0 q.1 H locs → lv_has ls 3 [(0, .ref (adr G 0))] → W p l e (rmK 6) s m args below meth c H locs 0 0 Q (F0 m 48 ls [])) u) : (fun q : St × Int32 => ∀ (H : Heap) (locs : List Loc) (ls : Array Slot), HX G A H0 q.1 H locs → lv_has ls 3 [(0, .ref (adr G 0)), (1, .int x1), (2, .int (q.2))] → W p l e (rmK 6) s m args below meth c H locs 0 0 Q (F0 m 15 ls [])) q0 :=
  iter_W (P := fun q : St × Int32 => ∀ (H : Heap) (locs : List Loc) (ls : Array Slot), HX G A H0 q.1 H locs → lv_has ls 3 [(0, .ref (adr G 0)), (1, .int x1), (2, .int (q.2))] → W p l e (rmK 6) s m args below meth c H locs 0 0 Q (F0 m 15 ls [])) (K := fun q : St × Int32 => ∀ (H : Heap) (locs : List Loc) (ls : Array Slot), HX G A H0 q.1 H locs → lv_has ls 3 [(0, .ref (adr G 0))] → W p l e (rmK 6) s m args below meth c H locs 0 0 Q (F0 m 48 ls [])) (fun q o hit Kn Kt => w_i_X6_alone_15 C  hit Kn Kt) n q0 u hq Kt
def f_X6_alone (S : St) (a0 : Int32) : Option (Int32 × St) :=
  bd (f_X1_hasLamp S a0) fun r5 => if r5 = true then (bd (iter (fun q => i_X6_alone_15 q.1 a0 q.2) BIG (S, (0 : Int32))) fun q15 => bd (f_X2_pressesFor q15.1 21) fun r60 => some (r60.1, r60.2)) else (some ((-1 : Int32), S))
set_option maxHeartbeats 4000000 in
set_option maxRecDepth 100000 in
theorem w_f_X6_alone {G : Geo} {p : Program} {l : Launch} {e : Env} {s : State} {m : MethodId} {args : Array Value} {below : List Frame} {meth : Method} {c : Code} {A : Nat → Prop} {H0 : Heap} {Q : State → Prop} (C : Cx G RX6 cX6_alone 3 p s m args c) {S : St} {a0 : Int32} {o : Int32 × St} (h : f_X6_alone S a0 = some o) (K : KI 37 eX G A H0 cX6_alone p l e 6 s m args below meth c Q ((o).1) ((o).2)) : ∀ (H : Heap) (locs : List Loc) (ls : Array Slot), HX G A H0 S H locs → lv_has ls 3 [(0, .ref (adr G 0)), (1, .int a0)] → W p l e (rmK 6) s m args below meth c H locs 0 0 Q (F0 m 0 ls []) := by
  obtain ⟨hx, hb, -⟩ := id C
  intro H locs ls hW hl
  unfold f_X6_alone at h
  refine lv_aload_n hx hb dX6_alone_0 rfl (lv_at hl 0 rfl) ?_
  refine gf_RX6_14 C hW dX6_alone_1 ?_
  refine lv_iload_n hx hb dX6_alone_4 rfl (lv_at hl 1 rfl) ?_
  obtain ⟨r5, r5h, h⟩ := bd_some h
  refine x_backI hW (x_runV (As := [.int a0]) (rest := []) C hW (c_X1_hasLamp l G r5h H.size) cv_RX6_101 rv_X1 hl.1 rfl rfl ⟨by decide, by decide⟩ (Nat.le_of_ble_eq_true rfl) ⟨Nat.zero_le _, Nat.zero_le _⟩ dX6_alone_5) (fun H locs hW => ?_)
  refine z_if_ne (tgt := 13) hx hb dX6_alone_8 (by decide) (fun b8 => ?_) (fun b8 => ?_)
  · have h := it_t b8 h
    refine lv_iconst (v := 0) hx hb dX6_alone_13 (by decide) ?_
    refine lv_istore_n (lv' := [(2, .int ((0 : Int32))), (0, .ref (adr G 0)), (1, .int a0)]) hx hb dX6_alone_14 rfl hl (by decide) rfl (fun ls hl => ?_)
    obtain ⟨q15, q15h, h⟩ := bd_some h
    refine l_i_X6_alone_15 C  q15h ?_ _ _ _ hW (lv_sub hl [1, 2, 0] rfl)
    intro H locs ls hW hl
    refine lv_aload_n hx hb dX6_alone_48 rfl (lv_at hl 0 rfl) ?_
    refine gf_RX6_28 C hW dX6_alone_49 ?_
    refine lv_aload_n hx hb dX6_alone_52 rfl (lv_at hl 0 rfl) ?_
    refine gf_RX6_14 C hW dX6_alone_53 ?_
    refine lv_aload_n hx hb dX6_alone_56 rfl (lv_at hl 0 rfl) ?_
    refine gf_RX6_52 C hW dX6_alone_57 ?_
    obtain ⟨r60, r60h, h⟩ := bd_some h
    refine x_backI hW (x_runV (As := [.ref (adr G 1), .ref (adr G 21)]) (rest := []) C hW (c_X2_pressesFor l G r60h H.size) cv_RX6_199 rv_X2 hl.1 rfl rfl ⟨by decide, by decide⟩ (Nat.le_of_ble_eq_true rfl) ⟨Nat.zero_le _, Nat.zero_le _⟩ dX6_alone_60) (fun H locs hW => ?_)
    obtain rfl := Option.some.inj h
    exact K _ _ _ _ dX6_alone_63 hW
  · have h := it_f b8 h
    refine lv_iconst (v := (-1)) hx hb dX6_alone_11 (by decide) ?_
    obtain rfl := Option.some.inj h
    exact K _ _ _ _ dX6_alone_12 hW
set_option maxRecDepth 100000 in
theorem c_X6_alone (l : Launch) (G : Geo) {S : St} {a0 : Int32} {o : Int32 × St} (h : f_X6_alone S a0 = some o) : MI 37 eX G l yX6_alone cX6_alone 3 (some .int) 6 [.ref (adr G 0), .int a0] S o.1 o.2 :=
  mI_of (by decide +kernel) (Nat.le_of_ble_eq_true rfl) (fun p e s m below meth c A H0 Q C K => w_f_X6_alone C h K)
def f_X6_faulted (S : St) (a0 : Int32) : Option (Int32 × St) :=
  some (((-10 : Int32)) - a0, up S 0 8 a0)
set_option maxHeartbeats 4000000 in
set_option maxRecDepth 100000 in
theorem w_f_X6_faulted {G : Geo} {p : Program} {l : Launch} {e : Env} {s : State} {m : MethodId} {args : Array Value} {below : List Frame} {meth : Method} {c : Code} {A : Nat → Prop} {H0 : Heap} {Q : State → Prop} (C : Cx G RX6 cX6_faulted 2 p s m args c) {S : St} {a0 : Int32} {o : Int32 × St} (h : f_X6_faulted S a0 = some o) (K : KI 37 eX G A H0 cX6_faulted p l e 0 s m args below meth c Q ((o).1) ((o).2)) : ∀ (H : Heap) (locs : List Loc) (ls : Array Slot), HX G A H0 S H locs → lv_has ls 2 [(0, .ref (adr G 0)), (1, .int a0)] → W p l e (rmK 0) s m args below meth c H locs 0 0 Q (F0 m 0 ls []) := by
  obtain ⟨hx, hb, -⟩ := id C
  intro H locs ls hW hl
  unfold f_X6_faulted at h
  refine lv_aload_n hx hb dX6_faulted_0 rfl (lv_at hl 0 rfl) ?_
  refine lv_iload_n hx hb dX6_faulted_1 rfl (lv_at hl 1 rfl) ?_
  refine pf_RX6_57 C hW dX6_faulted_2 (fun H locs hW => ?_)
  refine lv_bipush (v := (-10)) hx hb dX6_faulted_5 (by decide) ?_
  refine lv_iload_n hx hb dX6_faulted_7 rfl (lv_at hl 1 rfl) ?_
  refine lv_isub hx hb dX6_faulted_8 ?_
  obtain rfl := Option.some.inj h
  exact K _ _ _ _ dX6_faulted_9 hW
set_option maxRecDepth 100000 in
theorem c_X6_faulted (l : Launch) (G : Geo) {S : St} {a0 : Int32} {o : Int32 × St} (h : f_X6_faulted S a0 = some o) : MI 37 eX G l yX6_faulted cX6_faulted 2 (some .int) 0 [.ref (adr G 0), .int a0] S o.1 o.2 :=
  mI_of (by decide +kernel) (Nat.le_of_ble_eq_true rfl) (fun p e s m below meth c A H0 Q C K => w_f_X6_faulted C h K)
def f_X6_as (S : St) (a0 : Int32) (a1 : Int32) : Option (Int32 × St) :=
  bd (f_X1_hasSwitch (up S 0 8 ((0 : Int32))) a0) fun r10 => if r10 = true then (bd (f_X6_isIn a1 ((0 : Int32)) ((2 : Int32))) fun r21 => if r21 = true then (ck (okx a0 5) <| if ((up S 0 8 ((0 : Int32))) 24 (ix a0)) < a1 then (bd (f_X6_faulted (up S 0 8 ((0 : Int32))) ((2 : Int32))) fun r49 => some (r49.1, r49.2)) else (some ((1 : Int32), up S 0 8 ((0 : Int32))))) else (some ((-2 : Int32), up S 0 8 ((0 : Int32))))) else (some ((-1 : Int32), up S 0 8 ((0 : Int32))))
set_option maxHeartbeats 4000000 in
set_option maxRecDepth 100000 in
theorem w_f_X6_as {G : Geo} {p : Program} {l : Launch} {e : Env} {s : State} {m : MethodId} {args : Array Value} {below : List Frame} {meth : Method} {c : Code} {A : Nat → Prop} {H0 : Heap} {Q : State → Prop} (C : Cx G RX6 cX6_as 3 p s m args c) {S : St} {a0 : Int32} {a1 : Int32} {o : Int32 × St} (h : f_X6_as S a0 a1 = some o) (K : KI 37 eX G A H0 cX6_as p l e 1 s m args below meth c Q ((o).1) ((o).2)) : ∀ (H : Heap) (locs : List Loc) (ls : Array Slot), HX G A H0 S H locs → lv_has ls 3 [(0, .ref (adr G 0)), (1, .int a0), (2, .int a1)] → W p l e (rmK 1) s m args below meth c H locs 0 0 Q (F0 m 0 ls []) := by
  obtain ⟨hx, hb, -⟩ := id C
  intro H locs ls hW hl
  unfold f_X6_as at h
  refine lv_aload_n hx hb dX6_as_0 rfl (lv_at hl 0 rfl) ?_
  refine lv_iconst (v := 0) hx hb dX6_as_1 (by decide) ?_
  refine pf_RX6_57 C hW dX6_as_2 (fun H locs hW => ?_)
  refine lv_aload_n hx hb dX6_as_5 rfl (lv_at hl 0 rfl) ?_
  refine gf_RX6_14 C hW dX6_as_6 ?_
  refine lv_iload_n hx hb dX6_as_9 rfl (lv_at hl 1 rfl) ?_
  obtain ⟨r10, r10h, h⟩ := bd_some h
  refine x_backI hW (x_runV (As := [.int a0]) (rest := []) C hW (c_X1_hasSwitch l G r10h H.size) cv_RX6_113 rv_X1 hl.1 rfl rfl ⟨by decide, by decide⟩ (Nat.le_of_ble_eq_true rfl) ⟨Nat.zero_le _, Nat.zero_le _⟩ dX6_as_10) (fun H locs hW => ?_)
  refine z_if_ne (tgt := 18) hx hb dX6_as_13 (by decide) (fun b13 => ?_) (fun b13 => ?_)
  · have h := it_t b13 h
    refine lv_iload_n hx hb dX6_as_18 rfl (lv_at hl 2 rfl) ?_
    refine lv_iconst (v := 0) hx hb dX6_as_19 (by decide) ?_
    refine lv_iconst (v := 2) hx hb dX6_as_20 (by decide) ?_
    obtain ⟨r21, r21h, h⟩ := bd_some h
    refine x_backI hW (x_runS (As := [.int a1, .int ((0 : Int32)), .int ((2 : Int32))]) (rest := []) C hW (c_X6_isIn l G (S := up S 0 8 ((0 : Int32))) r21h H.size) cs_RX6_134 hl.1 rfl rfl ⟨by decide, by decide⟩ (Nat.le_of_ble_eq_true rfl) ⟨Nat.zero_le _, Nat.zero_le _⟩ dX6_as_21) (fun H locs hW => ?_)
    refine z_if_ne (tgt := 30) hx hb dX6_as_24 (by decide) (fun b24 => ?_) (fun b24 => ?_)
    · have h := it_t b24 h
      refine lv_aload_n hx hb dX6_as_30 rfl (lv_at hl 0 rfl) ?_
      refine gf_RX6_14 C hW dX6_as_31 ?_
      refine gf_RX6_116 C hW dX6_as_34 ?_
      refine lv_iload_n hx hb dX6_as_37 rfl (lv_at hl 1 rfl) ?_
      obtain ⟨g38, h⟩ := ck_some h
      refine x_iald C hW (k := 24) (n := 5) (by decide) (fun _ => rfl) g38 dX6_as_38 ?_
      refine lv_iload_n hx hb dX6_as_39 rfl (lv_at hl 2 rfl) ?_
      refine lv_icmp_lt (tgt := 47) hx hb dX6_as_40 (by decide) (fun b40 => ?_) (fun b40 => ?_)
      · have h := it_t b40 h
        refine lv_aload_n hx hb dX6_as_47 rfl (lv_at hl 0 rfl) ?_
        refine lv_iconst (v := 2) hx hb dX6_as_48 (by decide) ?_
        obtain ⟨r49, r49h, h⟩ := bd_some h
        refine x_backI hW (x_runV (As := [.int ((2 : Int32))]) (rest := []) C hW (c_X6_faulted l G r49h H.size) cv_RX6_77 rv_X6 hl.1 rfl rfl ⟨by decide, by decide⟩ (Nat.le_of_ble_eq_true rfl) ⟨Nat.zero_le _, Nat.zero_le _⟩ dX6_as_49) (fun H locs hW => ?_)
        obtain rfl := Option.some.inj h
        exact K _ _ _ _ dX6_as_52 hW
      · have h := it_f b40 h
        refine lv_iconst (v := 1) hx hb dX6_as_43 (by decide) ?_
        refine lv_goto (tgt := 52) hx hb dX6_as_44 (by decide) ?_
        obtain rfl := Option.some.inj h
        exact K _ _ _ _ dX6_as_52 hW
    · have h := it_f b24 h
      refine lv_bipush (v := (-2)) hx hb dX6_as_27 (by decide) ?_
      obtain rfl := Option.some.inj h
      exact K _ _ _ _ dX6_as_29 hW
  · have h := it_f b13 h
    refine lv_iconst (v := (-1)) hx hb dX6_as_16 (by decide) ?_
    obtain rfl := Option.some.inj h
    exact K _ _ _ _ dX6_as_17 hW
set_option maxRecDepth 100000 in
theorem c_X6_as (l : Launch) (G : Geo) {S : St} {a0 : Int32} {a1 : Int32} {o : Int32 × St} (h : f_X6_as S a0 a1 = some o) : MI 37 eX G l yX6_as cX6_as 3 (some .int) 1 [.ref (adr G 0), .int a0, .int a1] S o.1 o.2 :=
  mI_of (by decide +kernel) (Nat.le_of_ble_eq_true rfl) (fun p e s m below meth c A H0 Q C K => w_f_X6_as C h K)
def f_X6_back (S : St) (a0 : Int32) : Option (Int32 × St) :=
  bd (f_X6_isIn a0 ((0 : Int32)) (S 4 0)) fun r9 => if r9 = true then (some ((up S 4 0 ((S 4 0) - a0)) 4 0, up S 4 0 ((S 4 0) - a0))) else (some ((-2 : Int32), S))
set_option maxHeartbeats 4000000 in
set_option maxRecDepth 100000 in
theorem w_f_X6_back {G : Geo} {p : Program} {l : Launch} {e : Env} {s : State} {m : MethodId} {args : Array Value} {below : List Frame} {meth : Method} {c : Code} {A : Nat → Prop} {H0 : Heap} {Q : State → Prop} (C : Cx G RX6 cX6_back 2 p s m args c) {S : St} {a0 : Int32} {o : Int32 × St} (h : f_X6_back S a0 = some o) (K : KI 37 eX G A H0 cX6_back p l e 1 s m args below meth c Q ((o).1) ((o).2)) : ∀ (H : Heap) (locs : List Loc) (ls : Array Slot), HX G A H0 S H locs → lv_has ls 2 [(0, .ref (adr G 0)), (1, .int a0)] → W p l e (rmK 1) s m args below meth c H locs 0 0 Q (F0 m 0 ls []) := by
  obtain ⟨hx, hb, -⟩ := id C
  intro H locs ls hW hl
  unfold f_X6_back at h
  refine lv_iload_n hx hb dX6_back_0 rfl (lv_at hl 1 rfl) ?_
  refine lv_iconst (v := 0) hx hb dX6_back_1 (by decide) ?_
  refine lv_aload_n hx hb dX6_back_2 rfl (lv_at hl 0 rfl) ?_
  refine gf_RX6_35 C hW dX6_back_3 ?_
  refine gf_RX6_92 C hW dX6_back_6 ?_
  obtain ⟨r9, r9h, h⟩ := bd_some h
  refine x_backI hW (x_runS (As := [.int a0, .int ((0 : Int32)), .int (S 4 0)]) (rest := []) C hW (c_X6_isIn l G (S := S) r9h H.size) cs_RX6_134 hl.1 rfl rfl ⟨by decide, by decide⟩ (Nat.le_of_ble_eq_true rfl) ⟨Nat.zero_le _, Nat.zero_le _⟩ dX6_back_9) (fun H locs hW => ?_)
  refine z_if_ne (tgt := 18) hx hb dX6_back_12 (by decide) (fun b12 => ?_) (fun b12 => ?_)
  · have h := it_t b12 h
    refine lv_aload_n hx hb dX6_back_18 rfl (lv_at hl 0 rfl) ?_
    refine gf_RX6_35 C hW dX6_back_19 ?_
    refine lv_dup hx hb dX6_back_22 rfl ?_
    refine gf_RX6_92 C hW dX6_back_23 ?_
    refine lv_iload_n hx hb dX6_back_26 rfl (lv_at hl 1 rfl) ?_
    refine lv_isub hx hb dX6_back_27 ?_
    refine pf_RX6_92 C hW dX6_back_28 (fun H locs hW => ?_)
    refine lv_aload_n hx hb dX6_back_31 rfl (lv_at hl 0 rfl) ?_
    refine gf_RX6_35 C hW dX6_back_32 ?_
    refine gf_RX6_92 C hW dX6_back_35 ?_
    obtain rfl := Option.some.inj h
    exact K _ _ _ _ dX6_back_38 hW
  · have h := it_f b12 h
    refine lv_bipush (v := (-2)) hx hb dX6_back_15 (by decide) ?_
    obtain rfl := Option.some.inj h
    exact K _ _ _ _ dX6_back_17 hW
set_option maxRecDepth 100000 in
theorem c_X6_back (l : Launch) (G : Geo) {S : St} {a0 : Int32} {o : Int32 × St} (h : f_X6_back S a0 = some o) : MI 37 eX G l yX6_back cX6_back 2 (some .int) 1 [.ref (adr G 0), .int a0] S o.1 o.2 :=
  mI_of (by decide +kernel) (Nat.le_of_ble_eq_true rfl) (fun p e s m below meth c A H0 Q C K => w_f_X6_back C h K)
def f_X6_leave (S : St) (a0 : Int32) : Option (St) :=
  some (up S 0 7 ((((31 : Int32)) * (S 0 7)) + a0))
set_option maxHeartbeats 4000000 in
set_option maxRecDepth 100000 in
theorem w_f_X6_leave {G : Geo} {p : Program} {l : Launch} {e : Env} {s : State} {m : MethodId} {args : Array Value} {below : List Frame} {meth : Method} {c : Code} {A : Nat → Prop} {H0 : Heap} {Q : State → Prop} (C : Cx G RX6 cX6_leave 2 p s m args c) {S : St} {a0 : Int32} {o : St} (h : f_X6_leave S a0 = some o) (K : KV 37 eX G A H0 cX6_leave p l e 0 s m args below meth c Q o) : ∀ (H : Heap) (locs : List Loc) (ls : Array Slot), HX G A H0 S H locs → lv_has ls 2 [(0, .ref (adr G 0)), (1, .int a0)] → W p l e (rmK 0) s m args below meth c H locs 0 0 Q (F0 m 0 ls []) := by
  obtain ⟨hx, hb, -⟩ := id C
  intro H locs ls hW hl
  unfold f_X6_leave at h
  refine lv_aload_n hx hb dX6_leave_0 rfl (lv_at hl 0 rfl) ?_
  refine lv_bipush (v := 31) hx hb dX6_leave_1 (by decide) ?_
  refine lv_aload_n hx hb dX6_leave_3 rfl (lv_at hl 0 rfl) ?_
  refine gf_RX6_281 C hW dX6_leave_4 ?_
  refine lv_imul hx hb dX6_leave_7 ?_
  refine lv_iload_n hx hb dX6_leave_8 rfl (lv_at hl 1 rfl) ?_
  refine lv_iadd hx hb dX6_leave_9 ?_
  refine pf_RX6_281 C hW dX6_leave_10 (fun H locs hW => ?_)
  obtain rfl := Option.some.inj h
  exact K _ _ _ _ dX6_leave_13 hW
set_option maxRecDepth 100000 in
theorem c_X6_leave (l : Launch) (G : Geo) {S : St} {a0 : Int32} {o : St} (h : f_X6_leave S a0 = some o) : MV 37 eX G l yX6_leave cX6_leave 2 none 0 [.ref (adr G 0), .int a0] S o :=
  mV_of (by decide +kernel) (Nat.le_of_ble_eq_true rfl) (fun p e s m below meth c A H0 Q C K => w_f_X6_leave C h K)
def f_X6_plainBody (S : St) (a0 : Int32) : Option (Int32 × St) :=
  bd (f_X6_leave S ((1 : Int32))) fun r2 => some (a0, r2)
set_option maxHeartbeats 4000000 in
set_option maxRecDepth 100000 in
theorem w_f_X6_plainBody {G : Geo} {p : Program} {l : Launch} {e : Env} {s : State} {m : MethodId} {args : Array Value} {below : List Frame} {meth : Method} {c : Code} {A : Nat → Prop} {H0 : Heap} {Q : State → Prop} (C : Cx G RX6 cX6_plainBody 2 p s m args c) {S : St} {a0 : Int32} {o : Int32 × St} (h : f_X6_plainBody S a0 = some o) (K : KI 37 eX G A H0 cX6_plainBody p l e 1 s m args below meth c Q ((o).1) ((o).2)) : ∀ (H : Heap) (locs : List Loc) (ls : Array Slot), HX G A H0 S H locs → lv_has ls 2 [(0, .ref (adr G 0)), (1, .int a0)] → W p l e (rmK 1) s m args below meth c H locs 0 0 Q (F0 m 0 ls []) := by
  obtain ⟨hx, hb, -⟩ := id C
  intro H locs ls hW hl
  unfold f_X6_plainBody at h
  refine lv_aload_n hx hb dX6_plainBody_0 rfl (lv_at hl 0 rfl) ?_
  refine lv_iconst (v := 1) hx hb dX6_plainBody_1 (by decide) ?_
  obtain ⟨r2, r2h, h⟩ := bd_some h
  refine x_backV hW (x_runV (As := [.int ((1 : Int32))]) (rest := []) C hW (c_X6_leave l G r2h H.size) cv_RX6_271 rv_X6 hl.1 rfl rfl ⟨by decide, by decide⟩ (Nat.le_of_ble_eq_true rfl) ⟨Nat.zero_le _, Nat.zero_le _⟩ dX6_plainBody_2) (fun H locs hW => ?_)
  refine lv_iload_n hx hb dX6_plainBody_5 rfl (lv_at hl 1 rfl) ?_
  obtain rfl := Option.some.inj h
  exact K _ _ _ _ dX6_plainBody_6 hW
set_option maxRecDepth 100000 in
theorem c_X6_plainBody (l : Launch) (G : Geo) {S : St} {a0 : Int32} {o : Int32 × St} (h : f_X6_plainBody S a0 = some o) : MI 37 eX G l yX6_plainBody cX6_plainBody 2 (some .int) 1 [.ref (adr G 0), .int a0] S o.1 o.2 :=
  mI_of (by decide +kernel) (Nat.le_of_ble_eq_true rfl) (fun p e s m below meth c A H0 Q C K => w_f_X6_plainBody C h K)
def f_X6_broadBody (S : St) (a0 : Int32) : Option (Int32 × St) :=
  bd (f_X6_leave S ((2 : Int32))) fun r2 => bd (f_X6_plainBody r2 a0) fun r7 => some (r7.1 + ((100 : Int32)), r7.2)
set_option maxHeartbeats 4000000 in
set_option maxRecDepth 100000 in
theorem w_f_X6_broadBody {G : Geo} {p : Program} {l : Launch} {e : Env} {s : State} {m : MethodId} {args : Array Value} {below : List Frame} {meth : Method} {c : Code} {A : Nat → Prop} {H0 : Heap} {Q : State → Prop} (C : Cx G RX6 cX6_broadBody 2 p s m args c) {S : St} {a0 : Int32} {o : Int32 × St} (h : f_X6_broadBody S a0 = some o) (K : KI 37 eX G A H0 cX6_broadBody p l e 2 s m args below meth c Q ((o).1) ((o).2)) : ∀ (H : Heap) (locs : List Loc) (ls : Array Slot), HX G A H0 S H locs → lv_has ls 2 [(0, .ref (adr G 0)), (1, .int a0)] → W p l e (rmK 2) s m args below meth c H locs 0 0 Q (F0 m 0 ls []) := by
  obtain ⟨hx, hb, -⟩ := id C
  intro H locs ls hW hl
  unfold f_X6_broadBody at h
  refine lv_aload_n hx hb dX6_broadBody_0 rfl (lv_at hl 0 rfl) ?_
  refine lv_iconst (v := 2) hx hb dX6_broadBody_1 (by decide) ?_
  obtain ⟨r2, r2h, h⟩ := bd_some h
  refine x_backV hW (x_runV (As := [.int ((2 : Int32))]) (rest := []) C hW (c_X6_leave l G r2h H.size) cv_RX6_271 rv_X6 hl.1 rfl rfl ⟨by decide, by decide⟩ (Nat.le_of_ble_eq_true rfl) ⟨Nat.zero_le _, Nat.zero_le _⟩ dX6_broadBody_2) (fun H locs hW => ?_)
  refine lv_aload_n hx hb dX6_broadBody_5 rfl (lv_at hl 0 rfl) ?_
  refine lv_iload_n hx hb dX6_broadBody_6 rfl (lv_at hl 1 rfl) ?_
  obtain ⟨r7, r7h, h⟩ := bd_some h
  refine x_backI hW (x_runV (As := [.int a0]) (rest := []) C hW (c_X6_plainBody l G r7h H.size) cv_RX6_268 rv_X6 hl.1 rfl rfl ⟨by decide, by decide⟩ (Nat.le_of_ble_eq_true rfl) ⟨Nat.zero_le _, Nat.zero_le _⟩ dX6_broadBody_7) (fun H locs hW => ?_)
  refine lv_bipush (v := 100) hx hb dX6_broadBody_10 (by decide) ?_
  refine lv_iadd hx hb dX6_broadBody_12 ?_
  obtain rfl := Option.some.inj h
  exact K _ _ _ _ dX6_broadBody_13 hW
set_option maxRecDepth 100000 in
theorem c_X6_broadBody (l : Launch) (G : Geo) {S : St} {a0 : Int32} {o : Int32 × St} (h : f_X6_broadBody S a0 = some o) : MI 37 eX G l yX6_broadBody cX6_broadBody 2 (some .int) 2 [.ref (adr G 0), .int a0] S o.1 o.2 :=
  mI_of (by decide +kernel) (Nat.le_of_ble_eq_true rfl) (fun p e s m below meth c A H0 Q C K => w_f_X6_broadBody C h K)
def f_X6_sheetAt (S : St) (a0 : Int32) : Option (Option Nat) :=
  if a0 < 0 then (some none) else (if ((4 : Int32)) ≤ a0 then (some none) else (ck (okx a0 4) <| some (some (8 + ix a0))))
set_option maxHeartbeats 4000000 in
set_option maxRecDepth 100000 in
theorem w_f_X6_sheetAt {G : Geo} {p : Program} {l : Launch} {e : Env} {s : State} {m : MethodId} {args : Array Value} {below : List Frame} {meth : Method} {c : Code} {A : Nat → Prop} {H0 : Heap} {Q : State → Prop} (C : Cx G RX6 cX6_sheetAt 2 p s m args c) {S : St} {a0 : Int32} {o : Option Nat} (h : f_X6_sheetAt S a0 = some o) (K : KE 37 eX G A H0 cX6_sheetAt p l e 0 s m args below meth c Q o S) : ∀ (H : Heap) (locs : List Loc) (ls : Array Slot), HX G A H0 S H locs → lv_has ls 2 [(0, .ref (adr G 0)), (1, .int a0)] → W p l e (rmK 0) s m args below meth c H locs 0 0 Q (F0 m 0 ls []) := by
  obtain ⟨hx, hb, -⟩ := id C
  intro H locs ls hW hl
  unfold f_X6_sheetAt at h
  refine lv_iload_n hx hb dX6_sheetAt_0 rfl (lv_at hl 1 rfl) ?_
  refine lv_if_lt (tgt := 18) hx hb dX6_sheetAt_1 (by decide) (fun b1 => ?_) (fun b1 => ?_)
  · have h := it_t b1 h
    refine lv_null hx hb dX6_sheetAt_18 ?_
    obtain rfl := Option.some.inj h
    exact K _ _ _ _ dX6_sheetAt_19 hW
  · have h := it_f b1 h
    refine lv_iload_n hx hb dX6_sheetAt_4 rfl (lv_at hl 1 rfl) ?_
    refine lv_iconst (v := 4) hx hb dX6_sheetAt_5 (by decide) ?_
    refine lv_icmp_ge (tgt := 18) hx hb dX6_sheetAt_6 (by decide) (fun b6 => ?_) (fun b6 => ?_)
    · have h := it_t b6 h
      refine lv_null hx hb dX6_sheetAt_18 ?_
      obtain rfl := Option.some.inj h
      exact K _ _ _ _ dX6_sheetAt_19 hW
    · have h := it_f b6 h
      refine lv_aload_n hx hb dX6_sheetAt_9 rfl (lv_at hl 0 rfl) ?_
      refine gf_RX6_48 C hW dX6_sheetAt_10 ?_
      refine lv_iload_n hx hb dX6_sheetAt_13 rfl (lv_at hl 1 rfl) ?_
      obtain ⟨g14, h⟩ := ck_some h
      refine x_sheet C hW g14 dX6_sheetAt_14 ?_
      refine lv_goto (tgt := 19) hx hb dX6_sheetAt_15 (by decide) ?_
      obtain rfl := Option.some.inj h
      exact K _ _ _ _ dX6_sheetAt_19 hW
set_option maxRecDepth 100000 in
theorem c_X6_sheetAt (l : Launch) (G : Geo) {S : St} {a0 : Int32} {o : Option Nat} (h : f_X6_sheetAt S a0 = some o) : ME 37 eX G l yX6_sheetAt cX6_sheetAt 2 (some (.object "LampSwitches$Sheet")) 0 [.ref (adr G 0), .int a0] S o S :=
  mE_of (by decide +kernel) (Nat.le_of_ble_eq_true rfl) (fun p e s m below meth c A H0 Q C K => w_f_X6_sheetAt C h K)
def f_X6_isLane (a0 : Int32) : Option (Bool) :=
  bd (f_X6_isIn a0 ((0 : Int32)) ((2 : Int32))) fun r3 => some r3
set_option maxHeartbeats 4000000 in
set_option maxRecDepth 100000 in
theorem w_f_X6_isLane {G : Geo} {p : Program} {l : Launch} {e : Env} {s : State} {m : MethodId} {args : Array Value} {below : List Frame} {meth : Method} {c : Code} {A : Nat → Prop} {H0 : Heap} {Q : State → Prop} (C : Cx G RX6 cX6_isLane 1 p s m args c) {S : St} {a0 : Int32} {o : Bool} (h : f_X6_isLane a0 = some o) (K : KI 37 eX G A H0 cX6_isLane p l e 1 s m args below meth c Q (bi o) S) : ∀ (H : Heap) (locs : List Loc) (ls : Array Slot), HX G A H0 S H locs → lv_has ls 1 [(0, .int a0)] → W p l e (rmK 1) s m args below meth c H locs 0 0 Q (F0 m 0 ls []) := by
  obtain ⟨hx, hb, -⟩ := id C
  intro H locs ls hW hl
  unfold f_X6_isLane at h
  refine lv_iload_n hx hb dX6_isLane_0 rfl (lv_at hl 0 rfl) ?_
  refine lv_iconst (v := 0) hx hb dX6_isLane_1 (by decide) ?_
  refine lv_iconst (v := 2) hx hb dX6_isLane_2 (by decide) ?_
  obtain ⟨r3, r3h, h⟩ := bd_some h
  refine x_backI hW (x_runS (As := [.int a0, .int ((0 : Int32)), .int ((2 : Int32))]) (rest := []) C hW (c_X6_isIn l G (S := S) r3h H.size) cs_RX6_134 hl.1 rfl rfl ⟨by decide, by decide⟩ (Nat.le_of_ble_eq_true rfl) ⟨Nat.zero_le _, Nat.zero_le _⟩ dX6_isLane_3) (fun H locs hW => ?_)
  obtain rfl := Option.some.inj h
  exact K _ _ _ _ dX6_isLane_6 hW
set_option maxRecDepth 100000 in
theorem c_X6_isLane (l : Launch) (G : Geo) {S : St} {a0 : Int32} {o : Bool} (h : f_X6_isLane a0 = some o) : MI 37 eX G l yX6_isLane cX6_isLane 1 (some .boolean) 1 [.int a0] S (bi o) S :=
  mZ_of (by decide +kernel) (Nat.le_of_ble_eq_true rfl) (fun p e s m below meth c A H0 Q C K => w_f_X6_isLane C h K)
def f_X6_cell (S : St) (a0 : Int32) (a1 : Int32) (a2 : Int32) : Option (Int64 × St) :=
  bd (f_X6_sheetAt (up S 0 8 ((0 : Int32))) a0) fun r7 => op r7 (some ((-9223372036854775808 : Int64), up S 0 8 ((0 : Int32)))) fun k7 => ck (shX k7) <| bd (f_X6_isLane a2) fun r18 => if r18 = true then (bd (f_X4_faultOfCells (up S 0 8 ((0 : Int32))) k7 a2 a1 ((1 : Int32))) fun r33 => if r33 = 0 then (bd (f_X4_at (up S 0 8 ((0 : Int32))) k7 a1) fun r56 => some (r56.toInt64, up S 0 8 ((0 : Int32)))) else (some ((-9223372036854775808 : Int64), up (up S 0 8 ((0 : Int32))) 0 8 r33))) else (some ((-9223372036854775808 : Int64), up S 0 8 ((0 : Int32))))
set_option maxHeartbeats 4000000 in
set_option maxRecDepth 100000 in
theorem w_f_X6_cell {G : Geo} {p : Program} {l : Launch} {e : Env} {s : State} {m : MethodId} {args : Array Value} {below : List Frame} {meth : Method} {c : Code} {A : Nat → Prop} {H0 : Heap} {Q : State → Prop} (C : Cx G RX6 cX6_cell 6 p s m args c) {S : St} {a0 : Int32} {a1 : Int32} {a2 : Int32} {o : Int64 × St} (h : f_X6_cell S a0 a1 a2 = some o) (K : KL 37 eX G A H0 cX6_cell p l e 3 s m args below meth c Q ((o).1) ((o).2)) : ∀ (H : Heap) (locs : List Loc) (ls : Array Slot), HX G A H0 S H locs → lv_has ls 6 [(0, .ref (adr G 0)), (1, .int a0), (2, .int a1), (3, .int a2)] → W p l e (rmK 3) s m args below meth c H locs 0 0 Q (F0 m 0 ls []) := by
  obtain ⟨hx, hb, -⟩ := id C
  intro H locs ls hW hl
  unfold f_X6_cell at h
  refine lv_aload_n hx hb dX6_cell_0 rfl (lv_at hl 0 rfl) ?_
  refine lv_iconst (v := 0) hx hb dX6_cell_1 (by decide) ?_
  refine pf_RX6_57 C hW dX6_cell_2 (fun H locs hW => ?_)
  refine lv_aload_n hx hb dX6_cell_5 rfl (lv_at hl 0 rfl) ?_
  refine lv_iload_n hx hb dX6_cell_6 rfl (lv_at hl 1 rfl) ?_
  obtain ⟨r7, r7h, h⟩ := bd_some h
  refine x_backE hW (x_runV (As := [.int a0]) (rest := []) C hW (c_X6_sheetAt l G r7h H.size) cv_RX6_61 rv_X6 hl.1 rfl rfl ⟨by decide, by decide⟩ (Nat.le_of_ble_eq_true rfl) ⟨Nat.zero_le _, Nat.zero_le _⟩ dX6_cell_7) (fun H locs hW => ?_)
  cases r7 with
  | none =>
    have h := op_n h
    refine lv_astoreN (lv' := [(4, .null), (0, .ref (adr G 0)), (1, .int a0), (2, .int a1), (3, .int a2)]) hx hb dX6_cell_10 hl (by decide) rfl (fun ls hl => ?_)
    refine lv_aloadN hx hb dX6_cell_12 (lv_at hl 0 rfl) ?_
    refine lv_ifnullN (tgt := 24) hx hb dX6_cell_14 (by decide) ?_
    refine lv_ldc2 (v := (-9223372036854775808)) hx hb C.2.2.2.1 (C.2.2.2.2.1 _ uKL_RX6_229) dX6_cell_24 ?_
    obtain rfl := Option.some.inj h
    exact K _ _ _ _ dX6_cell_27 hW
  | some k7 =>
    have h := op_sm h
    obtain ⟨k7h, h⟩ := ck_some h
    refine lv_astore (lv' := [(4, .ref (adr G k7)), (0, .ref (adr G 0)), (1, .int a0), (2, .int a1), (3, .int a2)]) hx hb dX6_cell_10 hl (by decide) rfl (fun ls hl => ?_)
    refine lv_aload hx hb dX6_cell_12 (lv_at hl 0 rfl) ?_
    refine lv_ifnull hx hb dX6_cell_14 ?_
    refine lv_iload_n hx hb dX6_cell_17 rfl (lv_at hl 4 rfl) ?_
    obtain ⟨r18, r18h, h⟩ := bd_some h
    refine x_backI hW (x_runS (As := [.int a2]) (rest := []) C hW (c_X6_isLane l G (S := up S 0 8 ((0 : Int32))) r18h H.size) cs_RX6_65 hl.1 rfl rfl ⟨by decide, by decide⟩ (Nat.le_of_ble_eq_true rfl) ⟨Nat.zero_le _, Nat.zero_le _⟩ dX6_cell_18) (fun H locs hW => ?_)
    refine z_if_ne (tgt := 28) hx hb dX6_cell_21 (by decide) (fun b21 => ?_) (fun b21 => ?_)
    · have h := it_t b21 h
      refine lv_aload hx hb dX6_cell_28 (lv_at hl 0 rfl) ?_
      refine lv_iload_n hx hb dX6_cell_30 rfl (lv_at hl 4 rfl) ?_
      refine lv_iload_n hx hb dX6_cell_31 rfl (lv_at hl 3 rfl) ?_
      refine lv_iconst (v := 1) hx hb dX6_cell_32 (by decide) ?_
      obtain ⟨r33, r33h, h⟩ := bd_some h
      refine x_backI hW (x_runV (As := [.int a2, .int a1, .int ((1 : Int32))]) (rest := []) C hW (c_X4_faultOfCells l G r33h H.size) cv_RX6_152 (rv_X4 k7h) hl.1 rfl rfl ⟨by decide, by decide⟩ (Nat.le_of_ble_eq_true rfl) ⟨Nat.zero_le _, Nat.zero_le _⟩ dX6_cell_33) (fun H locs hW => ?_)
      refine lv_istore (lv' := [(5, .int r33), (4, .ref (adr G k7)), (0, .ref (adr G 0)), (1, .int a0), (2, .int a1), (3, .int a2)]) hx hb dX6_cell_36 hl (by decide) rfl (fun ls hl => ?_)
      refine lv_iload hx hb dX6_cell_38 (lv_at hl 0 rfl) ?_
      refine lv_if_eq (tgt := 53) hx hb dX6_cell_40 (by decide) (fun b40 => ?_) (fun b40 => ?_)
      · have h := it_t b40 h
        refine lv_aload hx hb dX6_cell_53 (lv_at hl 1 rfl) ?_
        refine lv_iload_n hx hb dX6_cell_55 rfl (lv_at hl 4 rfl) ?_
        obtain ⟨r56, r56h, h⟩ := bd_some h
        refine x_backI hW (x_runV (As := [.int a1]) (rest := []) C hW (c_X4_at l G r56h H.size) cv_RX6_171 (rv_X4 k7h) hl.1 rfl rfl ⟨by decide, by decide⟩ (Nat.le_of_ble_eq_true rfl) ⟨Nat.zero_le _, Nat.zero_le _⟩ dX6_cell_56) (fun H locs hW => ?_)
        refine lv_i2l hx hb dX6_cell_59 rfl ?_
        obtain rfl := Option.some.inj h
        exact K _ _ _ _ dX6_cell_60 hW
      · have h := it_f b40 h
        refine lv_aload_n hx hb dX6_cell_43 rfl (lv_at hl 2 rfl) ?_
        refine lv_iload hx hb dX6_cell_44 (lv_at hl 0 rfl) ?_
        refine pf_RX6_57 C hW dX6_cell_46 (fun H locs hW => ?_)
        refine lv_ldc2 (v := (-9223372036854775808)) hx hb C.2.2.2.1 (C.2.2.2.2.1 _ uKL_RX6_229) dX6_cell_49 ?_
        obtain rfl := Option.some.inj h
        exact K _ _ _ _ dX6_cell_52 hW
    · have h := it_f b21 h
      refine lv_ldc2 (v := (-9223372036854775808)) hx hb C.2.2.2.1 (C.2.2.2.2.1 _ uKL_RX6_229) dX6_cell_24 ?_
      obtain rfl := Option.some.inj h
      exact K _ _ _ _ dX6_cell_27 hW
set_option maxRecDepth 100000 in
theorem c_X6_cell (l : Launch) (G : Geo) {S : St} {a0 : Int32} {a1 : Int32} {a2 : Int32} {o : Int64 × St} (h : f_X6_cell S a0 a1 a2 = some o) : ML 37 eX G l yX6_cell cX6_cell 6 (some .long) 3 [.ref (adr G 0), .int a0, .int a1, .int a2] S o.1 o.2 :=
  mL_of (by decide +kernel) (Nat.le_of_ble_eq_true rfl) (fun p e s m below meth c A H0 Q C K => w_f_X6_cell C h K)
def i_X6_commonDivisor_7 (x2 : Int32) (x3 : Int32) (x4 : Int32) : Option ((Int32 × Int32 × Int32) ⊕ (Int32 × Int32 × Int32)) :=
  if ((64 : Int32)) ≤ x4 then (some (.inr (x2, x3, x4))) else (if x3 ≤ 0 then (some (.inr (x2, x3, x4))) else (ck (¬ x3 = 0) <| some (.inl (x3, rem32 x2 x3, x4 + (1 : Int32)))))
set_option maxHeartbeats 4000000 in
set_option maxRecDepth 100000 in
theorem w_i_X6_commonDivisor_7 {G : Geo} {p : Program} {l : Launch} {e : Env} {s : State} {m : MethodId} {args : Array Value} {below : List Frame} {meth : Method} {c : Code} {A : Nat → Prop} {H0 : Heap} {Q : State → Prop} (C : Cx G RX6 cX6_commonDivisor 6 p s m args c) {S : St} {x2 : Int32} {x3 : Int32} {x4 : Int32} {o : (Int32 × Int32 × Int32) ⊕ (Int32 × Int32 × Int32)} (h : i_X6_commonDivisor_7 x2 x3 x4 = some o) (Kn : ∀ q, o = .inl q → ∀ (H : Heap) (locs : List Loc) (ls : Array Slot), HX G A H0 S H locs → lv_has ls 6 [(2, .int (q.1)), (3, .int (q.2.1)), (4, .int (q.2.2))] → W p l e (rmK 0) s m args below meth c H locs 0 0 Q (F0 m 7 ls [])) (Kt : ∀ q, o = .inr q → ∀ (H : Heap) (locs : List Loc) (ls : Array Slot), HX G A H0 S H locs → lv_has ls 6 [(2, .int (q.1))] → W p l e (rmK 0) s m args below meth c H locs 0 0 Q (F0 m 34 ls [])) : ∀ (H : Heap) (locs : List Loc) (ls : Array Slot), HX G A H0 S H locs → lv_has ls 6 [(2, .int x2), (3, .int x3), (4, .int x4)] → W p l e (rmK 0) s m args below meth c H locs 0 0 Q (F0 m 7 ls []) := by
  obtain ⟨hx, hb, -⟩ := id C
  intro H locs ls hW hl
  unfold i_X6_commonDivisor_7 at h
  refine lv_iload hx hb dX6_commonDivisor_7 (lv_at hl 2 rfl) ?_
  refine lv_bipush (v := 64) hx hb dX6_commonDivisor_9 (by decide) ?_
  refine lv_icmp_ge (tgt := 34) hx hb dX6_commonDivisor_11 (by decide) (fun b11 => ?_) (fun b11 => ?_)
  · have h := it_t b11 h
    obtain rfl := Option.some.inj h
    exact Kt _ rfl _ _ _ hW (lv_sub hl [0] rfl)
  · have h := it_f b11 h
    refine lv_iload_n hx hb dX6_commonDivisor_14 rfl (lv_at hl 1 rfl) ?_
    refine lv_if_le (tgt := 34) hx hb dX6_commonDivisor_15 (by decide) (fun b15 => ?_) (fun b15 => ?_)
    · have h := it_t b15 h
      obtain rfl := Option.some.inj h
      exact Kt _ rfl _ _ _ hW (lv_sub hl [0] rfl)
    · have h := it_f b15 h
      refine lv_iload_n hx hb dX6_commonDivisor_18 rfl (lv_at hl 0 rfl) ?_
      refine lv_iload_n hx hb dX6_commonDivisor_19 rfl (lv_at hl 1 rfl) ?_
      obtain ⟨g20, h⟩ := ck_some h
      refine lv_irem hx hb dX6_commonDivisor_20 g20 ?_
      refine lv_istore (lv' := [(5, .int (rem32 x2 x3)), (2, .int x2), (3, .int x3), (4, .int x4)]) hx hb dX6_commonDivisor_21 hl (by decide) rfl (fun ls hl => ?_)
      refine lv_iload_n hx hb dX6_commonDivisor_23 rfl (lv_at hl 2 rfl) ?_
      refine lv_istore_n (lv' := [(2, .int x3), (5, .int (rem32 x2 x3)), (3, .int x3), (4, .int x4)]) hx hb dX6_commonDivisor_24 rfl hl (by decide) rfl (fun ls hl => ?_)
      refine lv_iload hx hb dX6_commonDivisor_25 (lv_at hl 1 rfl) ?_
      refine lv_istore_n (lv' := [(3, .int (rem32 x2 x3)), (2, .int x3), (5, .int (rem32 x2 x3)), (4, .int x4)]) hx hb dX6_commonDivisor_27 rfl hl (by decide) rfl (fun ls hl => ?_)
      refine lv_iinc (v := (x4 + (1 : Int32))) (lv' := [(4, .int (x4 + (1 : Int32))), (3, .int (rem32 x2 x3)), (2, .int x3), (5, .int (rem32 x2 x3))]) hx hb dX6_commonDivisor_28 hl (k := 3) rfl rfl (by decide) rfl (fun ls hl => ?_)
      refine lv_goto (tgt := 7) hx hb dX6_commonDivisor_31 (by decide) ?_
      obtain rfl := Option.some.inj h
      exact Kn _ rfl _ _ _ hW (lv_sub hl [2, 1, 0] rfl)
set_option maxHeartbeats 4000000 in
set_option maxRecDepth 100000 in
theorem l_i_X6_commonDivisor_7 {G : Geo} {p : Program} {l : Launch} {e : Env} {s : State} {m : MethodId} {args : Array Value} {below : List Frame} {meth : Method} {c : Code} {A : Nat → Prop} {H0 : Heap} {Q : State → Prop} (C : Cx G RX6 cX6_commonDivisor 6 p s m args c) {S : St}  {n : Nat} {q0 : Int32 × Int32 × Int32} {u : Int32 × Int32 × Int32} (hq : iter (fun q : Int32 × Int32 × Int32 => i_X6_commonDivisor_7 q.1 q.2.1 q.2.2) n q0 = some u) (Kt : (fun q : Int32 × Int32 × Int32 => ∀ (H : Heap) (locs : List Loc) (ls : Array Slot), HX G A H0 S H locs → lv_has ls 6 [(2, .int (q.1))] → W p l e (rmK 0) s m args below meth c H locs 0 0 Q (F0 m 34 ls [])) u) : (fun q : Int32 × Int32 × Int32 => ∀ (H : Heap) (locs : List Loc) (ls : Array Slot), HX G A H0 S H locs → lv_has ls 6 [(2, .int (q.1)), (3, .int (q.2.1)), (4, .int (q.2.2))] → W p l e (rmK 0) s m args below meth c H locs 0 0 Q (F0 m 7 ls [])) q0 :=
  iter_W (P := fun q : Int32 × Int32 × Int32 => ∀ (H : Heap) (locs : List Loc) (ls : Array Slot), HX G A H0 S H locs → lv_has ls 6 [(2, .int (q.1)), (3, .int (q.2.1)), (4, .int (q.2.2))] → W p l e (rmK 0) s m args below meth c H locs 0 0 Q (F0 m 7 ls [])) (K := fun q : Int32 × Int32 × Int32 => ∀ (H : Heap) (locs : List Loc) (ls : Array Slot), HX G A H0 S H locs → lv_has ls 6 [(2, .int (q.1))] → W p l e (rmK 0) s m args below meth c H locs 0 0 Q (F0 m 34 ls [])) (fun q o hit Kn Kt => w_i_X6_commonDivisor_7 C  hit Kn Kt) n q0 u hq Kt
def f_X6_commonDivisor (a0 : Int32) (a1 : Int32) : Option (Int32) :=
  bd (iter (fun q => i_X6_commonDivisor_7 q.1 q.2.1 q.2.2) BIG (a0, a1, (0 : Int32))) fun q7 => some q7.1
set_option maxHeartbeats 4000000 in
set_option maxRecDepth 100000 in
theorem w_f_X6_commonDivisor {G : Geo} {p : Program} {l : Launch} {e : Env} {s : State} {m : MethodId} {args : Array Value} {below : List Frame} {meth : Method} {c : Code} {A : Nat → Prop} {H0 : Heap} {Q : State → Prop} (C : Cx G RX6 cX6_commonDivisor 6 p s m args c) {S : St} {a0 : Int32} {a1 : Int32} {o : Int32} (h : f_X6_commonDivisor a0 a1 = some o) (K : KI 37 eX G A H0 cX6_commonDivisor p l e 0 s m args below meth c Q o S) : ∀ (H : Heap) (locs : List Loc) (ls : Array Slot), HX G A H0 S H locs → lv_has ls 6 [(0, .int a0), (1, .int a1)] → W p l e (rmK 0) s m args below meth c H locs 0 0 Q (F0 m 0 ls []) := by
  obtain ⟨hx, hb, -⟩ := id C
  intro H locs ls hW hl
  unfold f_X6_commonDivisor at h
  refine lv_iload_n hx hb dX6_commonDivisor_0 rfl (lv_at hl 0 rfl) ?_
  refine lv_istore_n (lv' := [(2, .int a0), (0, .int a0), (1, .int a1)]) hx hb dX6_commonDivisor_1 rfl hl (by decide) rfl (fun ls hl => ?_)
  refine lv_iload_n hx hb dX6_commonDivisor_2 rfl (lv_at hl 2 rfl) ?_
  refine lv_istore_n (lv' := [(3, .int a1), (2, .int a0), (0, .int a0), (1, .int a1)]) hx hb dX6_commonDivisor_3 rfl hl (by decide) rfl (fun ls hl => ?_)
  refine lv_iconst (v := 0) hx hb dX6_commonDivisor_4 (by decide) ?_
  refine lv_istore (lv' := [(4, .int ((0 : Int32))), (3, .int a1), (2, .int a0), (0, .int a0), (1, .int a1)]) hx hb dX6_commonDivisor_5 hl (by decide) rfl (fun ls hl => ?_)
  obtain ⟨q7, q7h, h⟩ := bd_some h
  refine l_i_X6_commonDivisor_7 C  q7h ?_ _ _ _ hW (lv_sub hl [2, 1, 0] rfl)
  intro H locs ls hW hl
  refine lv_iload_n hx hb dX6_commonDivisor_34 rfl (lv_at hl 0 rfl) ?_
  obtain rfl := Option.some.inj h
  exact K _ _ _ _ dX6_commonDivisor_35 hW
set_option maxRecDepth 100000 in
theorem c_X6_commonDivisor (l : Launch) (G : Geo) {S : St} {a0 : Int32} {a1 : Int32} {o : Int32} (h : f_X6_commonDivisor a0 a1 = some o) : MI 37 eX G l yX6_commonDivisor cX6_commonDivisor 6 (some .int) 0 [.int a0, .int a1] S o S :=
  mI_of (by decide +kernel) (Nat.le_of_ble_eq_true rfl) (fun p e s m below meth c A H0 Q C K => w_f_X6_commonDivisor C h K)
def f_X6_copy (S : St) (a0 : Int32) (a1 : Int32) (a2 : Int32) (a3 : Int32) (a4 : Int32) : Option (Int32 × St) :=
  bd (f_X6_sheetAt (up S 0 8 ((0 : Int32))) a0) fun r7 => op r7 (bd (f_X6_sheetAt (up S 0 8 ((0 : Int32))) a2) fun r14 => op r14 (some ((-1 : Int32), up S 0 8 ((0 : Int32)))) fun k14 => ck (shX k14) <| some ((-1 : Int32), up S 0 8 ((0 : Int32)))) fun k7 => ck (shX k7) <| bd (f_X6_sheetAt (up S 0 8 ((0 : Int32))) a2) fun r14 => op r14 (some ((-1 : Int32), up S 0 8 ((0 : Int32)))) fun k14 => ck (shX k14) <| bd (f_X4_isNothing (up S 0 8 ((0 : Int32))) k7) fun r33 => if r33 = true then (bd (f_X6_faulted (up S 0 8 ((0 : Int32))) ((1 : Int32))) fun r49 => some (r49.1, r49.2)) else (bd (f_X4_isNothing (up S 0 8 ((0 : Int32))) k14) fun r41 => if r41 = false then (if ((up S 0 8 ((0 : Int32))) k7 0) = ((up S 0 8 ((0 : Int32))) k14 0) then (bd (f_X4_hasCells (up S 0 8 ((0 : Int32))) k7 a1 a4) fun r77 => if r77 = false then (bd (f_X6_faulted (up S 0 8 ((0 : Int32))) ((3 : Int32))) fun r97 => some (r97.1, r97.2)) else (bd (f_X4_hasCells (up S 0 8 ((0 : Int32))) k14 a3 a4) fun r89 => if r89 = true then (ck (okc a1 a3 a4 60 60) <| some (a4, va_up (up S 0 8 ((0 : Int32))) (k14 + 4) (va_cpy ((up S 0 8 ((0 : Int32))) (k7 + 4)) ((up S 0 8 ((0 : Int32))) (k14 + 4)) (ix a1) (ix a3) (ix a4)))) else (bd (f_X6_faulted (up S 0 8 ((0 : Int32))) ((3 : Int32))) fun r97 => some (r97.1, r97.2)))) else (bd (f_X6_faulted (up S 0 8 ((0 : Int32))) ((2 : Int32))) fun r68 => some (r68.1, r68.2))) else (bd (f_X6_faulted (up S 0 8 ((0 : Int32))) ((1 : Int32))) fun r49 => some (r49.1, r49.2)))
set_option maxHeartbeats 4000000 in
set_option maxRecDepth 100000 in
theorem w_f_X6_copy {G : Geo} {p : Program} {l : Launch} {e : Env} {s : State} {m : MethodId} {args : Array Value} {below : List Frame} {meth : Method} {c : Code} {A : Nat → Prop} {H0 : Heap} {Q : State → Prop} (C : Cx G RX6 cX6_copy 8 p s m args c) {S : St} {a0 : Int32} {a1 : Int32} {a2 : Int32} {a3 : Int32} {a4 : Int32} {o : Int32 × St} (h : f_X6_copy S a0 a1 a2 a3 a4 = some o) (K : KI 37 eX G A H0 cX6_copy p l e 1 s m args below meth c Q ((o).1) ((o).2)) : ∀ (H : Heap) (locs : List Loc) (ls : Array Slot), HX G A H0 S H locs → lv_has ls 8 [(0, .ref (adr G 0)), (1, .int a0), (2, .int a1), (3, .int a2), (4, .int a3), (5, .int a4)] → W p l e (rmK 1) s m args below meth c H locs 0 0 Q (F0 m 0 ls []) := by
  obtain ⟨hx, hb, -⟩ := id C
  intro H locs ls hW hl
  unfold f_X6_copy at h
  refine lv_aload_n hx hb dX6_copy_0 rfl (lv_at hl 0 rfl) ?_
  refine lv_iconst (v := 0) hx hb dX6_copy_1 (by decide) ?_
  refine pf_RX6_57 C hW dX6_copy_2 (fun H locs hW => ?_)
  refine lv_aload_n hx hb dX6_copy_5 rfl (lv_at hl 0 rfl) ?_
  refine lv_iload_n hx hb dX6_copy_6 rfl (lv_at hl 1 rfl) ?_
  obtain ⟨r7, r7h, h⟩ := bd_some h
  refine x_backE hW (x_runV (As := [.int a0]) (rest := []) C hW (c_X6_sheetAt l G r7h H.size) cv_RX6_61 rv_X6 hl.1 rfl rfl ⟨by decide, by decide⟩ (Nat.le_of_ble_eq_true rfl) ⟨Nat.zero_le _, Nat.zero_le _⟩ dX6_copy_7) (fun H locs hW => ?_)
  cases r7 with
  | none =>
    have h := op_n h
    refine lv_astoreN (lv' := [(6, .null), (0, .ref (adr G 0)), (1, .int a0), (2, .int a1), (3, .int a2), (4, .int a3), (5, .int a4)]) hx hb dX6_copy_10 hl (by decide) rfl (fun ls hl => ?_)
    refine lv_aload_n hx hb dX6_copy_12 rfl (lv_at hl 1 rfl) ?_
    refine lv_iload_n hx hb dX6_copy_13 rfl (lv_at hl 4 rfl) ?_
    obtain ⟨r14, r14h, h⟩ := bd_some h
    refine x_backE hW (x_runV (As := [.int a2]) (rest := []) C hW (c_X6_sheetAt l G r14h H.size) cv_RX6_61 rv_X6 hl.1 rfl rfl ⟨by decide, by decide⟩ (Nat.le_of_ble_eq_true rfl) ⟨Nat.zero_le _, Nat.zero_le _⟩ dX6_copy_14) (fun H locs hW => ?_)
    cases r14 with
    | none =>
      have h := op_n h
      refine lv_astoreN (lv' := [(7, .null), (6, .null), (0, .ref (adr G 0)), (1, .int a0), (2, .int a1), (3, .int a2), (4, .int a3), (5, .int a4)]) hx hb dX6_copy_17 hl (by decide) rfl (fun ls hl => ?_)
      refine lv_aloadN hx hb dX6_copy_19 (lv_at hl 1 rfl) ?_
      refine lv_ifnullN (tgt := 29) hx hb dX6_copy_21 (by decide) ?_
      refine lv_iconst (v := (-1)) hx hb dX6_copy_29 (by decide) ?_
      obtain rfl := Option.some.inj h
      exact K _ _ _ _ dX6_copy_30 hW
    | some k14 =>
      have h := op_sm h
      obtain ⟨k14h, h⟩ := ck_some h
      refine lv_astore (lv' := [(7, .ref (adr G k14)), (6, .null), (0, .ref (adr G 0)), (1, .int a0), (2, .int a1), (3, .int a2), (4, .int a3), (5, .int a4)]) hx hb dX6_copy_17 hl (by decide) rfl (fun ls hl => ?_)
      refine lv_aloadN hx hb dX6_copy_19 (lv_at hl 1 rfl) ?_
      refine lv_ifnullN (tgt := 29) hx hb dX6_copy_21 (by decide) ?_
      refine lv_iconst (v := (-1)) hx hb dX6_copy_29 (by decide) ?_
      obtain rfl := Option.some.inj h
      exact K _ _ _ _ dX6_copy_30 hW
  | some k7 =>
    have h := op_sm h
    obtain ⟨k7h, h⟩ := ck_some h
    refine lv_astore (lv' := [(6, .ref (adr G k7)), (0, .ref (adr G 0)), (1, .int a0), (2, .int a1), (3, .int a2), (4, .int a3), (5, .int a4)]) hx hb dX6_copy_10 hl (by decide) rfl (fun ls hl => ?_)
    refine lv_aload_n hx hb dX6_copy_12 rfl (lv_at hl 1 rfl) ?_
    refine lv_iload_n hx hb dX6_copy_13 rfl (lv_at hl 4 rfl) ?_
    obtain ⟨r14, r14h, h⟩ := bd_some h
    refine x_backE hW (x_runV (As := [.int a2]) (rest := []) C hW (c_X6_sheetAt l G r14h H.size) cv_RX6_61 rv_X6 hl.1 rfl rfl ⟨by decide, by decide⟩ (Nat.le_of_ble_eq_true rfl) ⟨Nat.zero_le _, Nat.zero_le _⟩ dX6_copy_14) (fun H locs hW => ?_)
    cases r14 with
    | none =>
      have h := op_n h
      refine lv_astoreN (lv' := [(7, .null), (6, .ref (adr G k7)), (0, .ref (adr G 0)), (1, .int a0), (2, .int a1), (3, .int a2), (4, .int a3), (5, .int a4)]) hx hb dX6_copy_17 hl (by decide) rfl (fun ls hl => ?_)
      refine lv_aload hx hb dX6_copy_19 (lv_at hl 1 rfl) ?_
      refine lv_ifnull hx hb dX6_copy_21 ?_
      refine lv_aloadN hx hb dX6_copy_24 (lv_at hl 0 rfl) ?_
      refine lv_ifnonnullN hx hb dX6_copy_26 ?_
      refine lv_iconst (v := (-1)) hx hb dX6_copy_29 (by decide) ?_
      obtain rfl := Option.some.inj h
      exact K _ _ _ _ dX6_copy_30 hW
    | some k14 =>
      have h := op_sm h
      obtain ⟨k14h, h⟩ := ck_some h
      refine lv_astore (lv' := [(7, .ref (adr G k14)), (6, .ref (adr G k7)), (0, .ref (adr G 0)), (1, .int a0), (2, .int a1), (3, .int a2), (4, .int a3), (5, .int a4)]) hx hb dX6_copy_17 hl (by decide) rfl (fun ls hl => ?_)
      refine lv_aload hx hb dX6_copy_19 (lv_at hl 1 rfl) ?_
      refine lv_ifnull hx hb dX6_copy_21 ?_
      refine lv_aload hx hb dX6_copy_24 (lv_at hl 0 rfl) ?_
      refine lv_ifnonnull (tgt := 31) hx hb dX6_copy_26 (by decide) ?_
      refine lv_aload hx hb dX6_copy_31 (lv_at hl 1 rfl) ?_
      obtain ⟨r33, r33h, h⟩ := bd_some h
      refine x_backI hW (x_runV (As := []) (rest := []) C hW (c_X4_isNothing l G r33h H.size) cv_RX6_247 (rv_X4 k7h) hl.1 rfl rfl ⟨by decide, by decide⟩ (Nat.le_of_ble_eq_true rfl) ⟨Nat.zero_le _, Nat.zero_le _⟩ dX6_copy_33) (fun H locs hW => ?_)
      refine z_if_ne (tgt := 47) hx hb dX6_copy_36 (by decide) (fun b36 => ?_) (fun b36 => ?_)
      · have h := it_t b36 h
        refine lv_aload_n hx hb dX6_copy_47 rfl (lv_at hl 2 rfl) ?_
        refine lv_iconst (v := 1) hx hb dX6_copy_48 (by decide) ?_
        obtain ⟨r49, r49h, h⟩ := bd_some h
        refine x_backI hW (x_runV (As := [.int ((1 : Int32))]) (rest := []) C hW (c_X6_faulted l G r49h H.size) cv_RX6_77 rv_X6 hl.1 rfl rfl ⟨by decide, by decide⟩ (Nat.le_of_ble_eq_true rfl) ⟨Nat.zero_le _, Nat.zero_le _⟩ dX6_copy_49) (fun H locs hW => ?_)
        obtain rfl := Option.some.inj h
        exact K _ _ _ _ dX6_copy_52 hW
      · have h := it_f b36 h
        refine lv_aload hx hb dX6_copy_39 (lv_at hl 0 rfl) ?_
        obtain ⟨r41, r41h, h⟩ := bd_some h
        refine x_backI hW (x_runV (As := []) (rest := []) C hW (c_X4_isNothing l G r41h H.size) cv_RX6_247 (rv_X4 k14h) hl.1 rfl rfl ⟨by decide, by decide⟩ (Nat.le_of_ble_eq_true rfl) ⟨Nat.zero_le _, Nat.zero_le _⟩ dX6_copy_41) (fun H locs hW => ?_)
        refine z_if_eq (tgt := 53) hx hb dX6_copy_44 (by decide) (fun b44 => ?_) (fun b44 => ?_)
        · have h := it_t b44 h
          refine lv_aload hx hb dX6_copy_53 (lv_at hl 1 rfl) ?_
          refine gf_RX6_256 C hW k7h dX6_copy_55 ?_
          refine lv_aload hx hb dX6_copy_58 (lv_at hl 0 rfl) ?_
          refine gf_RX6_256 C hW k14h dX6_copy_60 ?_
          refine lv_icmp_eq (tgt := 72) hx hb dX6_copy_63 (by decide) (fun b63 => ?_) (fun b63 => ?_)
          · have h := it_t b63 h
            refine lv_aload hx hb dX6_copy_72 (lv_at hl 1 rfl) ?_
            refine lv_iload_n hx hb dX6_copy_74 rfl (lv_at hl 4 rfl) ?_
            refine lv_iload hx hb dX6_copy_75 (lv_at hl 7 rfl) ?_
            obtain ⟨r77, r77h, h⟩ := bd_some h
            refine x_backI hW (x_runV (As := [.int a1, .int a4]) (rest := []) C hW (c_X4_hasCells l G r77h H.size) cv_RX6_73 (rv_X4 k7h) hl.1 rfl rfl ⟨by decide, by decide⟩ (Nat.le_of_ble_eq_true rfl) ⟨Nat.zero_le _, Nat.zero_le _⟩ dX6_copy_77) (fun H locs hW => ?_)
            refine z_if_eq (tgt := 95) hx hb dX6_copy_80 (by decide) (fun b80 => ?_) (fun b80 => ?_)
            · have h := it_t b80 h
              refine lv_aload_n hx hb dX6_copy_95 rfl (lv_at hl 2 rfl) ?_
              refine lv_iconst (v := 3) hx hb dX6_copy_96 (by decide) ?_
              obtain ⟨r97, r97h, h⟩ := bd_some h
              refine x_backI hW (x_runV (As := [.int ((3 : Int32))]) (rest := []) C hW (c_X6_faulted l G r97h H.size) cv_RX6_77 rv_X6 hl.1 rfl rfl ⟨by decide, by decide⟩ (Nat.le_of_ble_eq_true rfl) ⟨Nat.zero_le _, Nat.zero_le _⟩ dX6_copy_97) (fun H locs hW => ?_)
              obtain rfl := Option.some.inj h
              exact K _ _ _ _ dX6_copy_100 hW
            · have h := it_f b80 h
              refine lv_aload hx hb dX6_copy_83 (lv_at hl 0 rfl) ?_
              refine lv_iload hx hb dX6_copy_85 (lv_at hl 6 rfl) ?_
              refine lv_iload hx hb dX6_copy_87 (lv_at hl 7 rfl) ?_
              obtain ⟨r89, r89h, h⟩ := bd_some h
              refine x_backI hW (x_runV (As := [.int a3, .int a4]) (rest := []) C hW (c_X4_hasCells l G r89h H.size) cv_RX6_73 (rv_X4 k14h) hl.1 rfl rfl ⟨by decide, by decide⟩ (Nat.le_of_ble_eq_true rfl) ⟨Nat.zero_le _, Nat.zero_le _⟩ dX6_copy_89) (fun H locs hW => ?_)
              refine z_if_ne (tgt := 101) hx hb dX6_copy_92 (by decide) (fun b92 => ?_) (fun b92 => ?_)
              · have h := it_t b92 h
                refine lv_aload hx hb dX6_copy_101 (lv_at hl 1 rfl) ?_
                refine gf_RX6_259 C hW k7h dX6_copy_103 ?_
                refine lv_iload_n hx hb dX6_copy_106 rfl (lv_at hl 4 rfl) ?_
                refine lv_aload hx hb dX6_copy_107 (lv_at hl 0 rfl) ?_
                refine gf_RX6_259 C hW k14h dX6_copy_109 ?_
                refine lv_iload hx hb dX6_copy_112 (lv_at hl 6 rfl) ?_
                refine lv_iload hx hb dX6_copy_114 (lv_at hl 7 rfl) ?_
                obtain ⟨g116, h⟩ := ck_some h
                refine x_copy C hW hl.1 uML_RX6_231 uNA_arraycopyName uST_arraycopyName uINI_RJ10 (k0 := k7 + 4) (k1 := k14 + 4) (sh_ar k7h).2 (eX_cells k7h) (sh_ar k14h).2 (eX_cells k14h) g116 (by decide) (by decide) dX6_copy_116 (fun H locs hW => ?_)
                refine lv_iload hx hb dX6_copy_119 (lv_at hl 7 rfl) ?_
                obtain rfl := Option.some.inj h
                exact K _ _ _ _ dX6_copy_121 hW
              · have h := it_f b92 h
                refine lv_aload_n hx hb dX6_copy_95 rfl (lv_at hl 2 rfl) ?_
                refine lv_iconst (v := 3) hx hb dX6_copy_96 (by decide) ?_
                obtain ⟨r97, r97h, h⟩ := bd_some h
                refine x_backI hW (x_runV (As := [.int ((3 : Int32))]) (rest := []) C hW (c_X6_faulted l G r97h H.size) cv_RX6_77 rv_X6 hl.1 rfl rfl ⟨by decide, by decide⟩ (Nat.le_of_ble_eq_true rfl) ⟨Nat.zero_le _, Nat.zero_le _⟩ dX6_copy_97) (fun H locs hW => ?_)
                obtain rfl := Option.some.inj h
                exact K _ _ _ _ dX6_copy_100 hW
          · have h := it_f b63 h
            refine lv_aload_n hx hb dX6_copy_66 rfl (lv_at hl 2 rfl) ?_
            refine lv_iconst (v := 2) hx hb dX6_copy_67 (by decide) ?_
            obtain ⟨r68, r68h, h⟩ := bd_some h
            refine x_backI hW (x_runV (As := [.int ((2 : Int32))]) (rest := []) C hW (c_X6_faulted l G r68h H.size) cv_RX6_77 rv_X6 hl.1 rfl rfl ⟨by decide, by decide⟩ (Nat.le_of_ble_eq_true rfl) ⟨Nat.zero_le _, Nat.zero_le _⟩ dX6_copy_68) (fun H locs hW => ?_)
            obtain rfl := Option.some.inj h
            exact K _ _ _ _ dX6_copy_71 hW
        · have h := it_f b44 h
          refine lv_aload_n hx hb dX6_copy_47 rfl (lv_at hl 2 rfl) ?_
          refine lv_iconst (v := 1) hx hb dX6_copy_48 (by decide) ?_
          obtain ⟨r49, r49h, h⟩ := bd_some h
          refine x_backI hW (x_runV (As := [.int ((1 : Int32))]) (rest := []) C hW (c_X6_faulted l G r49h H.size) cv_RX6_77 rv_X6 hl.1 rfl rfl ⟨by decide, by decide⟩ (Nat.le_of_ble_eq_true rfl) ⟨Nat.zero_le _, Nat.zero_le _⟩ dX6_copy_49) (fun H locs hW => ?_)
          obtain rfl := Option.some.inj h
          exact K _ _ _ _ dX6_copy_52 hW
set_option maxRecDepth 100000 in
theorem c_X6_copy (l : Launch) (G : Geo) {S : St} {a0 : Int32} {a1 : Int32} {a2 : Int32} {a3 : Int32} {a4 : Int32} {o : Int32 × St} (h : f_X6_copy S a0 a1 a2 a3 a4 = some o) : MI 37 eX G l yX6_copy cX6_copy 8 (some .int) 1 [.ref (adr G 0), .int a0, .int a1, .int a2, .int a3, .int a4] S o.1 o.2 :=
  mI_of (by decide +kernel) (Nat.le_of_ble_eq_true rfl) (fun p e s m below meth c A H0 Q C K => w_f_X6_copy C h K)
def j_X6_darkRows_0_9 (S : St) (x1 : Nat) : Option (Int32 × St) :=
  bd (f_X1_darkIn S x1) fun r11 => if r11 = (S 1 0) then (some ((1 : Int32), S)) else (some ((0 : Int32), S))
set_option maxHeartbeats 4000000 in
set_option maxRecDepth 100000 in
theorem w_j_X6_darkRows_0_9 {G : Geo} {p : Program} {l : Launch} {e : Env} {s : State} {m : MethodId} {args : Array Value} {below : List Frame} {meth : Method} {c : Code} {A : Nat → Prop} {H0 : Heap} {Q : State → Prop} (C : Cx G RX6 cX6_darkRows 5 p s m args c) {S : St} {x1 : Nat} {o : Int32 × St} (hx1 : arX x1) (h : j_X6_darkRows_0_9 S x1 = some o) (K : KI 37 eX G A H0 cX6_darkRows p l e 4 s m args below meth c Q ((o).1) ((o).2)) : ∀ (H : Heap) (locs : List Loc) (ls : Array Slot), HX G A H0 S H locs → lv_has ls 5 [(0, .ref (adr G 1)), (1, .ref (adr G x1))] → W p l e (rmK 4) s m args below meth c H locs 0 0 Q (F0 m 9 ls []) := by
  obtain ⟨hx, hb, -⟩ := id C
  intro H locs ls hW hl
  unfold j_X6_darkRows_0_9 at h
  refine lv_aload_n hx hb dX6_darkRows_9 rfl (lv_at hl 0 rfl) ?_
  refine lv_aload_n hx hb dX6_darkRows_10 rfl (lv_at hl 1 rfl) ?_
  obtain ⟨r11, r11h, h⟩ := bd_some h
  refine x_backI hW (x_runV (As := [.ref (adr G x1)]) (rest := []) C hW (c_X1_darkIn l G r11h H.size) cv_RX6_145 rv_X1 hl.1 rfl rfl ⟨by decide, by decide⟩ (Nat.le_of_ble_eq_true rfl) ⟨Nat.zero_le _, Nat.zero_le _⟩ dX6_darkRows_11) (fun H locs hW => ?_)
  refine lv_aload_n hx hb dX6_darkRows_14 rfl (lv_at hl 0 rfl) ?_
  refine gf_RX6_193 C hW dX6_darkRows_15 ?_
  refine lv_icmp_ne (tgt := 25) hx hb dX6_darkRows_18 (by decide) (fun b18 => ?_) (fun b18 => ?_)
  · have h := it_f b18 h
    refine lv_iconst (v := 0) hx hb dX6_darkRows_25 (by decide) ?_
    obtain rfl := Option.some.inj h
    exact K _ _ _ _ dX6_darkRows_26 hW
  · have h := it_t b18 h
    refine lv_iconst (v := 1) hx hb dX6_darkRows_21 (by decide) ?_
    refine lv_goto (tgt := 26) hx hb dX6_darkRows_22 (by decide) ?_
    obtain rfl := Option.some.inj h
    exact K _ _ _ _ dX6_darkRows_26 hW
def i_X6_darkRows_0_32 (S : St) (x1 : Nat) (x2 : Int32) (x3 : Int32) (x4 : Int32) : Option ((St × Int32 × Int32) ⊕ (St × Int32 × Int32)) :=
  if (S 1 3) ≤ x4 then (some (.inr (S, x3, x4))) else (bd (f_X1_turnOn S x1 x4 ((1 : Int32))) fun r46 => none)
set_option maxHeartbeats 4000000 in
set_option maxRecDepth 100000 in
theorem w_i_X6_darkRows_0_32 {G : Geo} {p : Program} {l : Launch} {e : Env} {s : State} {m : MethodId} {args : Array Value} {below : List Frame} {meth : Method} {c : Code} {A : Nat → Prop} {H0 : Heap} {Q : State → Prop} (C : Cx G RX6 cX6_darkRows 5 p s m args c) {S : St} {x1 : Nat} {x2 : Int32} {x3 : Int32} {x4 : Int32} {o : (St × Int32 × Int32) ⊕ (St × Int32 × Int32)} (hx1 : arX x1) (h : i_X6_darkRows_0_32 S x1 x2 x3 x4 = some o) (Kn : ∀ q, o = .inl q → ∀ (H : Heap) (locs : List Loc) (ls : Array Slot), HX G A H0 q.1 H locs → lv_has ls 5 [(0, .ref (adr G 1)), (1, .ref (adr G x1)), (2, .int x2), (3, .int (q.2.1)), (4, .int (q.2.2))] → W p l e (rmK 4) s m args below meth c H locs 0 0 Q (F0 m 32 ls [])) (Kt : ∀ q, o = .inr q → ∀ (H : Heap) (locs : List Loc) (ls : Array Slot), HX G A H0 q.1 H locs → lv_has ls 5 [(3, .int (q.2.1))] → W p l e (rmK 4) s m args below meth c H locs 0 0 Q (F0 m 74 ls [])) : ∀ (H : Heap) (locs : List Loc) (ls : Array Slot), HX G A H0 S H locs → lv_has ls 5 [(0, .ref (adr G 1)), (1, .ref (adr G x1)), (2, .int x2), (3, .int x3), (4, .int x4)] → W p l e (rmK 4) s m args below meth c H locs 0 0 Q (F0 m 32 ls []) := by
  obtain ⟨hx, hb, -⟩ := id C
  intro H locs ls hW hl
  unfold i_X6_darkRows_0_32 at h
  refine lv_iload hx hb dX6_darkRows_32 (lv_at hl 4 rfl) ?_
  refine lv_aload_n hx hb dX6_darkRows_34 rfl (lv_at hl 0 rfl) ?_
  refine gf_RX6_98 C hW dX6_darkRows_35 ?_
  refine lv_icmp_ge (tgt := 74) hx hb dX6_darkRows_38 (by decide) (fun b38 => ?_) (fun b38 => ?_)
  · have h := it_t b38 h
    obtain rfl := Option.some.inj h
    exact Kt _ rfl _ _ _ hW (lv_sub hl [3] rfl)
  · have h := it_f b38 h
    refine lv_aload_n hx hb dX6_darkRows_41 rfl (lv_at hl 0 rfl) ?_
    refine lv_aload_n hx hb dX6_darkRows_42 rfl (lv_at hl 1 rfl) ?_
    refine lv_iload hx hb dX6_darkRows_43 (lv_at hl 4 rfl) ?_
    refine lv_iconst (v := 1) hx hb dX6_darkRows_45 (by decide) ?_
    obtain ⟨r46, r46h, h⟩ := bd_some h
    refine x_backV hW (x_runV (As := [.ref (adr G x1), .int x4, .int ((1 : Int32))]) (rest := []) C hW (c_X1_turnOn l G r46h H.size) cv_RX6_141 rv_X1 hl.1 rfl rfl ⟨by decide, by decide⟩ (Nat.le_of_ble_eq_true rfl) ⟨Nat.zero_le _, Nat.zero_le _⟩ dX6_darkRows_46) (fun H locs hW => ?_)
    refine lv_iload_n hx hb dX6_darkRows_49 rfl (lv_at hl 3 rfl) ?_
    refine lv_aload_n hx hb dX6_darkRows_50 rfl (lv_at hl 0 rfl) ?_
    refine lv_aload_n hx hb dX6_darkRows_51 rfl (lv_at hl 1 rfl) ?_
    refine lv_iload_n hx hb dX6_darkRows_52 rfl (lv_at hl 2 rfl) ?_
    refine lv_iconst (v := 1) hx hb dX6_darkRows_53 (by decide) ?_
    refine lv_isub hx hb dX6_darkRows_54 ?_
    cases h
set_option maxHeartbeats 4000000 in
set_option maxRecDepth 100000 in
theorem l_i_X6_darkRows_0_32 {G : Geo} {p : Program} {l : Launch} {e : Env} {s : State} {m : MethodId} {args : Array Value} {below : List Frame} {meth : Method} {c : Code} {A : Nat → Prop} {H0 : Heap} {Q : State → Prop} (C : Cx G RX6 cX6_darkRows 5 p s m args c) {x1 : Nat} {x2 : Int32} {n : Nat} {q0 : St × Int32 × Int32} {u : St × Int32 × Int32} (hx1 : arX x1) (hq : iter (fun q : St × Int32 × Int32 => i_X6_darkRows_0_32 q.1 x1 x2 q.2.1 q.2.2) n q0 = some u) (Kt : (fun q : St × Int32 × Int32 => ∀ (H : Heap) (locs : List Loc) (ls : Array Slot), HX G A H0 q.1 H locs → lv_has ls 5 [(3, .int (q.2.1))] → W p l e (rmK 4) s m args below meth c H locs 0 0 Q (F0 m 74 ls [])) u) : (fun q : St × Int32 × Int32 => ∀ (H : Heap) (locs : List Loc) (ls : Array Slot), HX G A H0 q.1 H locs → lv_has ls 5 [(0, .ref (adr G 1)), (1, .ref (adr G x1)), (2, .int x2), (3, .int (q.2.1)), (4, .int (q.2.2))] → W p l e (rmK 4) s m args below meth c H locs 0 0 Q (F0 m 32 ls [])) q0 :=
  iter_W (P := fun q : St × Int32 × Int32 => ∀ (H : Heap) (locs : List Loc) (ls : Array Slot), HX G A H0 q.1 H locs → lv_has ls 5 [(0, .ref (adr G 1)), (1, .ref (adr G x1)), (2, .int x2), (3, .int (q.2.1)), (4, .int (q.2.2))] → W p l e (rmK 4) s m args below meth c H locs 0 0 Q (F0 m 32 ls [])) (K := fun q : St × Int32 × Int32 => ∀ (H : Heap) (locs : List Loc) (ls : Array Slot), HX G A H0 q.1 H locs → lv_has ls 5 [(3, .int (q.2.1))] → W p l e (rmK 4) s m args below meth c H locs 0 0 Q (F0 m 74 ls [])) (fun q o hit Kn Kt => w_i_X6_darkRows_0_32 C hx1 hit Kn Kt) n q0 u hq Kt
def f_X6_darkRows_0 (S : St) (a1 : Nat) (a2 : Int32) : Option (Int32 × St) :=
  ck (arX a1) <| if a2 ≤ 0 then (j_X6_darkRows_0_9 S a1) else (if a2 ≤ ((4 : Int32)) then (bd (iter (fun q => i_X6_darkRows_0_32 q.1 a1 a2 q.2.1 q.2.2) BIG (S, (0 : Int32), (0 : Int32))) fun q32 => some (q32.2.1, q32.1)) else (j_X6_darkRows_0_9 S a1))
set_option maxHeartbeats 4000000 in
set_option maxRecDepth 100000 in
theorem w_f_X6_darkRows_0 {G : Geo} {p : Program} {l : Launch} {e : Env} {s : State} {m : MethodId} {args : Array Value} {below : List Frame} {meth : Method} {c : Code} {A : Nat → Prop} {H0 : Heap} {Q : State → Prop} (C : Cx G RX6 cX6_darkRows 5 p s m args c) {S : St} {a1 : Nat} {a2 : Int32} {o : Int32 × St} (h : f_X6_darkRows_0 S a1 a2 = some o) (K : KI 37 eX G A H0 cX6_darkRows p l e 4 s m args below meth c Q ((o).1) ((o).2)) : ∀ (H : Heap) (locs : List Loc) (ls : Array Slot), HX G A H0 S H locs → lv_has ls 5 [(0, .ref (adr G 1)), (1, .ref (adr G a1)), (2, .int a2)] → W p l e (rmK 4) s m args below meth c H locs 0 0 Q (F0 m 0 ls []) := by
  obtain ⟨hx, hb, -⟩ := id C
  intro H locs ls hW hl
  unfold f_X6_darkRows_0 at h
  obtain ⟨ha1, h⟩ := ck_some h
  refine lv_iload_n hx hb dX6_darkRows_0 rfl (lv_at hl 2 rfl) ?_
  refine lv_if_le (tgt := 9) hx hb dX6_darkRows_1 (by decide) (fun b1 => ?_) (fun b1 => ?_)
  · have h := it_t b1 h
    exact w_j_X6_darkRows_0_9 C ha1 h K _ _ _ hW (lv_sub hl [0, 1] rfl)
  · have h := it_f b1 h
    refine lv_iload_n hx hb dX6_darkRows_4 rfl (lv_at hl 2 rfl) ?_
    refine lv_iconst (v := 4) hx hb dX6_darkRows_5 (by decide) ?_
    refine lv_icmp_le (tgt := 27) hx hb dX6_darkRows_6 (by decide) (fun b6 => ?_) (fun b6 => ?_)
    · have h := it_t b6 h
      refine lv_iconst (v := 0) hx hb dX6_darkRows_27 (by decide) ?_
      refine lv_istore_n (lv' := [(3, .int ((0 : Int32))), (0, .ref (adr G 1)), (1, .ref (adr G a1)), (2, .int a2)]) hx hb dX6_darkRows_28 rfl hl (by decide) rfl (fun ls hl => ?_)
      refine lv_iconst (v := 0) hx hb dX6_darkRows_29 (by decide) ?_
      refine lv_istore (lv' := [(4, .int ((0 : Int32))), (3, .int ((0 : Int32))), (0, .ref (adr G 1)), (1, .ref (adr G a1)), (2, .int a2)]) hx hb dX6_darkRows_30 hl (by decide) rfl (fun ls hl => ?_)
      obtain ⟨q32, q32h, h⟩ := bd_some h
      refine l_i_X6_darkRows_0_32 C ha1 q32h ?_ _ _ _ hW (lv_sub hl [2, 3, 4, 1, 0] rfl)
      intro H locs ls hW hl
      refine lv_iload_n hx hb dX6_darkRows_74 rfl (lv_at hl 0 rfl) ?_
      obtain rfl := Option.some.inj h
      exact K _ _ _ _ dX6_darkRows_75 hW
    · have h := it_f b6 h
      exact w_j_X6_darkRows_0_9 C ha1 h K _ _ _ hW (lv_sub hl [0, 1] rfl)
set_option maxRecDepth 100000 in
theorem c_X6_darkRows_0 (l : Launch) (G : Geo) {S : St} {a1 : Nat} {a2 : Int32} {o : Int32 × St} (h : f_X6_darkRows_0 S a1 a2 = some o) : MI 37 eX G l yX6_darkRows cX6_darkRows 5 (some .int) 4 [.ref (adr G 1), .ref (adr G a1), .int a2] S o.1 o.2 :=
  mI_of (by decide +kernel) (Nat.le_of_ble_eq_true rfl) (fun p e s m below meth c A H0 Q C K => w_f_X6_darkRows_0 C h K)
def j_X6_darkRows_1_9 (S : St) (x1 : Nat) : Option (Int32 × St) :=
  bd (f_X1_darkIn S x1) fun r11 => if r11 = (S 1 0) then (some ((1 : Int32), S)) else (some ((0 : Int32), S))
set_option maxHeartbeats 4000000 in
set_option maxRecDepth 100000 in
theorem w_j_X6_darkRows_1_9 {G : Geo} {p : Program} {l : Launch} {e : Env} {s : State} {m : MethodId} {args : Array Value} {below : List Frame} {meth : Method} {c : Code} {A : Nat → Prop} {H0 : Heap} {Q : State → Prop} (C : Cx G RX6 cX6_darkRows 5 p s m args c) {S : St} {x1 : Nat} {o : Int32 × St} (hx1 : arX x1) (h : j_X6_darkRows_1_9 S x1 = some o) (K : KI 37 eX G A H0 cX6_darkRows p l e 5 s m args below meth c Q ((o).1) ((o).2)) : ∀ (H : Heap) (locs : List Loc) (ls : Array Slot), HX G A H0 S H locs → lv_has ls 5 [(0, .ref (adr G 1)), (1, .ref (adr G x1))] → W p l e (rmK 5) s m args below meth c H locs 0 0 Q (F0 m 9 ls []) := by
  obtain ⟨hx, hb, -⟩ := id C
  intro H locs ls hW hl
  unfold j_X6_darkRows_1_9 at h
  refine lv_aload_n hx hb dX6_darkRows_9 rfl (lv_at hl 0 rfl) ?_
  refine lv_aload_n hx hb dX6_darkRows_10 rfl (lv_at hl 1 rfl) ?_
  obtain ⟨r11, r11h, h⟩ := bd_some h
  refine x_backI hW (x_runV (As := [.ref (adr G x1)]) (rest := []) C hW (c_X1_darkIn l G r11h H.size) cv_RX6_145 rv_X1 hl.1 rfl rfl ⟨by decide, by decide⟩ (Nat.le_of_ble_eq_true rfl) ⟨Nat.zero_le _, Nat.zero_le _⟩ dX6_darkRows_11) (fun H locs hW => ?_)
  refine lv_aload_n hx hb dX6_darkRows_14 rfl (lv_at hl 0 rfl) ?_
  refine gf_RX6_193 C hW dX6_darkRows_15 ?_
  refine lv_icmp_ne (tgt := 25) hx hb dX6_darkRows_18 (by decide) (fun b18 => ?_) (fun b18 => ?_)
  · have h := it_f b18 h
    refine lv_iconst (v := 0) hx hb dX6_darkRows_25 (by decide) ?_
    obtain rfl := Option.some.inj h
    exact K _ _ _ _ dX6_darkRows_26 hW
  · have h := it_t b18 h
    refine lv_iconst (v := 1) hx hb dX6_darkRows_21 (by decide) ?_
    refine lv_goto (tgt := 26) hx hb dX6_darkRows_22 (by decide) ?_
    obtain rfl := Option.some.inj h
    exact K _ _ _ _ dX6_darkRows_26 hW
def i_X6_darkRows_1_32 (S : St) (x1 : Nat) (x2 : Int32) (x3 : Int32) (x4 : Int32) : Option ((St × Int32 × Int32) ⊕ (St × Int32 × Int32)) :=
  if (S 1 3) ≤ x4 then (some (.inr (S, x3, x4))) else (bd (f_X1_turnOn S x1 x4 ((1 : Int32))) fun r46 => bd (f_X6_darkRows_0 r46 x1 (x2 - ((1 : Int32)))) fun r55 => bd (f_X1_turnOn r55.2 x1 x4 ((-1 : Int32))) fun r65 => some (.inl (r65, x3 + r55.1, x4 + (1 : Int32))))
set_option maxHeartbeats 4000000 in
set_option maxRecDepth 100000 in
theorem w_i_X6_darkRows_1_32 {G : Geo} {p : Program} {l : Launch} {e : Env} {s : State} {m : MethodId} {args : Array Value} {below : List Frame} {meth : Method} {c : Code} {A : Nat → Prop} {H0 : Heap} {Q : State → Prop} (C : Cx G RX6 cX6_darkRows 5 p s m args c) {S : St} {x1 : Nat} {x2 : Int32} {x3 : Int32} {x4 : Int32} {o : (St × Int32 × Int32) ⊕ (St × Int32 × Int32)} (hx1 : arX x1) (h : i_X6_darkRows_1_32 S x1 x2 x3 x4 = some o) (Kn : ∀ q, o = .inl q → ∀ (H : Heap) (locs : List Loc) (ls : Array Slot), HX G A H0 q.1 H locs → lv_has ls 5 [(0, .ref (adr G 1)), (1, .ref (adr G x1)), (2, .int x2), (3, .int (q.2.1)), (4, .int (q.2.2))] → W p l e (rmK 5) s m args below meth c H locs 0 0 Q (F0 m 32 ls [])) (Kt : ∀ q, o = .inr q → ∀ (H : Heap) (locs : List Loc) (ls : Array Slot), HX G A H0 q.1 H locs → lv_has ls 5 [(3, .int (q.2.1))] → W p l e (rmK 5) s m args below meth c H locs 0 0 Q (F0 m 74 ls [])) : ∀ (H : Heap) (locs : List Loc) (ls : Array Slot), HX G A H0 S H locs → lv_has ls 5 [(0, .ref (adr G 1)), (1, .ref (adr G x1)), (2, .int x2), (3, .int x3), (4, .int x4)] → W p l e (rmK 5) s m args below meth c H locs 0 0 Q (F0 m 32 ls []) := by
  obtain ⟨hx, hb, -⟩ := id C
  intro H locs ls hW hl
  unfold i_X6_darkRows_1_32 at h
  refine lv_iload hx hb dX6_darkRows_32 (lv_at hl 4 rfl) ?_
  refine lv_aload_n hx hb dX6_darkRows_34 rfl (lv_at hl 0 rfl) ?_
  refine gf_RX6_98 C hW dX6_darkRows_35 ?_
  refine lv_icmp_ge (tgt := 74) hx hb dX6_darkRows_38 (by decide) (fun b38 => ?_) (fun b38 => ?_)
  · have h := it_t b38 h
    obtain rfl := Option.some.inj h
    exact Kt _ rfl _ _ _ hW (lv_sub hl [3] rfl)
  · have h := it_f b38 h
    refine lv_aload_n hx hb dX6_darkRows_41 rfl (lv_at hl 0 rfl) ?_
    refine lv_aload_n hx hb dX6_darkRows_42 rfl (lv_at hl 1 rfl) ?_
    refine lv_iload hx hb dX6_darkRows_43 (lv_at hl 4 rfl) ?_
    refine lv_iconst (v := 1) hx hb dX6_darkRows_45 (by decide) ?_
    obtain ⟨r46, r46h, h⟩ := bd_some h
    refine x_backV hW (x_runV (As := [.ref (adr G x1), .int x4, .int ((1 : Int32))]) (rest := []) C hW (c_X1_turnOn l G r46h H.size) cv_RX6_141 rv_X1 hl.1 rfl rfl ⟨by decide, by decide⟩ (Nat.le_of_ble_eq_true rfl) ⟨Nat.zero_le _, Nat.zero_le _⟩ dX6_darkRows_46) (fun H locs hW => ?_)
    refine lv_iload_n hx hb dX6_darkRows_49 rfl (lv_at hl 3 rfl) ?_
    refine lv_aload_n hx hb dX6_darkRows_50 rfl (lv_at hl 0 rfl) ?_
    refine lv_aload_n hx hb dX6_darkRows_51 rfl (lv_at hl 1 rfl) ?_
    refine lv_iload_n hx hb dX6_darkRows_52 rfl (lv_at hl 2 rfl) ?_
    refine lv_iconst (v := 1) hx hb dX6_darkRows_53 (by decide) ?_
    refine lv_isub hx hb dX6_darkRows_54 ?_
    obtain ⟨r55, r55h, h⟩ := bd_some h
    refine x_backI hW (x_runS (As := [.ref (adr G 1), .ref (adr G x1), .int (x2 - ((1 : Int32)))]) (rest := [.int x3]) C hW (c_X6_darkRows_0 l G r55h H.size) cs_RX6_237 hl.1 rfl rfl ⟨by decide, by decide⟩ (Nat.le_of_ble_eq_true rfl) ⟨Nat.zero_le _, Nat.zero_le _⟩ dX6_darkRows_55) (fun H locs hW => ?_)
    refine lv_iadd hx hb dX6_darkRows_58 ?_
    refine lv_istore_n (lv' := [(3, .int (x3 + r55.1)), (0, .ref (adr G 1)), (1, .ref (adr G x1)), (2, .int x2), (4, .int x4)]) hx hb dX6_darkRows_59 rfl hl (by decide) rfl (fun ls hl => ?_)
    refine lv_aload_n hx hb dX6_darkRows_60 rfl (lv_at hl 1 rfl) ?_
    refine lv_aload_n hx hb dX6_darkRows_61 rfl (lv_at hl 2 rfl) ?_
    refine lv_iload hx hb dX6_darkRows_62 (lv_at hl 4 rfl) ?_
    refine lv_iconst (v := (-1)) hx hb dX6_darkRows_64 (by decide) ?_
    obtain ⟨r65, r65h, h⟩ := bd_some h
    refine x_backV hW (x_runV (As := [.ref (adr G x1), .int x4, .int ((-1 : Int32))]) (rest := []) C hW (c_X1_turnOn l G r65h H.size) cv_RX6_141 rv_X1 hl.1 rfl rfl ⟨by decide, by decide⟩ (Nat.le_of_ble_eq_true rfl) ⟨Nat.zero_le _, Nat.zero_le _⟩ dX6_darkRows_65) (fun H locs hW => ?_)
    refine lv_iinc (v := (x4 + (1 : Int32))) (lv' := [(4, .int (x4 + (1 : Int32))), (3, .int (x3 + r55.1)), (0, .ref (adr G 1)), (1, .ref (adr G x1)), (2, .int x2)]) hx hb dX6_darkRows_68 hl (k := 4) rfl rfl (by decide) rfl (fun ls hl => ?_)
    refine lv_goto (tgt := 32) hx hb dX6_darkRows_71 (by decide) ?_
    obtain rfl := Option.some.inj h
    exact Kn _ rfl _ _ _ hW (lv_sub hl [2, 3, 4, 1, 0] rfl)
set_option maxHeartbeats 4000000 in
set_option maxRecDepth 100000 in
theorem l_i_X6_darkRows_1_32 {G : Geo} {p : Program} {l : Launch} {e : Env} {s : State} {m : MethodId} {args : Array Value} {below : List Frame} {meth : Method} {c : Code} {A : Nat → Prop} {H0 : Heap} {Q : State → Prop} (C : Cx G RX6 cX6_darkRows 5 p s m args c) {x1 : Nat} {x2 : Int32} {n : Nat} {q0 : St × Int32 × Int32} {u : St × Int32 × Int32} (hx1 : arX x1) (hq : iter (fun q : St × Int32 × Int32 => i_X6_darkRows_1_32 q.1 x1 x2 q.2.1 q.2.2) n q0 = some u) (Kt : (fun q : St × Int32 × Int32 => ∀ (H : Heap) (locs : List Loc) (ls : Array Slot), HX G A H0 q.1 H locs → lv_has ls 5 [(3, .int (q.2.1))] → W p l e (rmK 5) s m args below meth c H locs 0 0 Q (F0 m 74 ls [])) u) : (fun q : St × Int32 × Int32 => ∀ (H : Heap) (locs : List Loc) (ls : Array Slot), HX G A H0 q.1 H locs → lv_has ls 5 [(0, .ref (adr G 1)), (1, .ref (adr G x1)), (2, .int x2), (3, .int (q.2.1)), (4, .int (q.2.2))] → W p l e (rmK 5) s m args below meth c H locs 0 0 Q (F0 m 32 ls [])) q0 :=
  iter_W (P := fun q : St × Int32 × Int32 => ∀ (H : Heap) (locs : List Loc) (ls : Array Slot), HX G A H0 q.1 H locs → lv_has ls 5 [(0, .ref (adr G 1)), (1, .ref (adr G x1)), (2, .int x2), (3, .int (q.2.1)), (4, .int (q.2.2))] → W p l e (rmK 5) s m args below meth c H locs 0 0 Q (F0 m 32 ls [])) (K := fun q : St × Int32 × Int32 => ∀ (H : Heap) (locs : List Loc) (ls : Array Slot), HX G A H0 q.1 H locs → lv_has ls 5 [(3, .int (q.2.1))] → W p l e (rmK 5) s m args below meth c H locs 0 0 Q (F0 m 74 ls [])) (fun q o hit Kn Kt => w_i_X6_darkRows_1_32 C hx1 hit Kn Kt) n q0 u hq Kt
def f_X6_darkRows_1 (S : St) (a1 : Nat) (a2 : Int32) : Option (Int32 × St) :=
  ck (arX a1) <| if a2 ≤ 0 then (j_X6_darkRows_1_9 S a1) else (if a2 ≤ ((4 : Int32)) then (bd (iter (fun q => i_X6_darkRows_1_32 q.1 a1 a2 q.2.1 q.2.2) BIG (S, (0 : Int32), (0 : Int32))) fun q32 => some (q32.2.1, q32.1)) else (j_X6_darkRows_1_9 S a1))
set_option maxHeartbeats 4000000 in
set_option maxRecDepth 100000 in
theorem w_f_X6_darkRows_1 {G : Geo} {p : Program} {l : Launch} {e : Env} {s : State} {m : MethodId} {args : Array Value} {below : List Frame} {meth : Method} {c : Code} {A : Nat → Prop} {H0 : Heap} {Q : State → Prop} (C : Cx G RX6 cX6_darkRows 5 p s m args c) {S : St} {a1 : Nat} {a2 : Int32} {o : Int32 × St} (h : f_X6_darkRows_1 S a1 a2 = some o) (K : KI 37 eX G A H0 cX6_darkRows p l e 5 s m args below meth c Q ((o).1) ((o).2)) : ∀ (H : Heap) (locs : List Loc) (ls : Array Slot), HX G A H0 S H locs → lv_has ls 5 [(0, .ref (adr G 1)), (1, .ref (adr G a1)), (2, .int a2)] → W p l e (rmK 5) s m args below meth c H locs 0 0 Q (F0 m 0 ls []) := by
  obtain ⟨hx, hb, -⟩ := id C
  intro H locs ls hW hl
  unfold f_X6_darkRows_1 at h
  obtain ⟨ha1, h⟩ := ck_some h
  refine lv_iload_n hx hb dX6_darkRows_0 rfl (lv_at hl 2 rfl) ?_
  refine lv_if_le (tgt := 9) hx hb dX6_darkRows_1 (by decide) (fun b1 => ?_) (fun b1 => ?_)
  · have h := it_t b1 h
    exact w_j_X6_darkRows_1_9 C ha1 h K _ _ _ hW (lv_sub hl [0, 1] rfl)
  · have h := it_f b1 h
    refine lv_iload_n hx hb dX6_darkRows_4 rfl (lv_at hl 2 rfl) ?_
    refine lv_iconst (v := 4) hx hb dX6_darkRows_5 (by decide) ?_
    refine lv_icmp_le (tgt := 27) hx hb dX6_darkRows_6 (by decide) (fun b6 => ?_) (fun b6 => ?_)
    · have h := it_t b6 h
      refine lv_iconst (v := 0) hx hb dX6_darkRows_27 (by decide) ?_
      refine lv_istore_n (lv' := [(3, .int ((0 : Int32))), (0, .ref (adr G 1)), (1, .ref (adr G a1)), (2, .int a2)]) hx hb dX6_darkRows_28 rfl hl (by decide) rfl (fun ls hl => ?_)
      refine lv_iconst (v := 0) hx hb dX6_darkRows_29 (by decide) ?_
      refine lv_istore (lv' := [(4, .int ((0 : Int32))), (3, .int ((0 : Int32))), (0, .ref (adr G 1)), (1, .ref (adr G a1)), (2, .int a2)]) hx hb dX6_darkRows_30 hl (by decide) rfl (fun ls hl => ?_)
      obtain ⟨q32, q32h, h⟩ := bd_some h
      refine l_i_X6_darkRows_1_32 C ha1 q32h ?_ _ _ _ hW (lv_sub hl [2, 3, 4, 1, 0] rfl)
      intro H locs ls hW hl
      refine lv_iload_n hx hb dX6_darkRows_74 rfl (lv_at hl 0 rfl) ?_
      obtain rfl := Option.some.inj h
      exact K _ _ _ _ dX6_darkRows_75 hW
    · have h := it_f b6 h
      exact w_j_X6_darkRows_1_9 C ha1 h K _ _ _ hW (lv_sub hl [0, 1] rfl)
set_option maxRecDepth 100000 in
theorem c_X6_darkRows_1 (l : Launch) (G : Geo) {S : St} {a1 : Nat} {a2 : Int32} {o : Int32 × St} (h : f_X6_darkRows_1 S a1 a2 = some o) : MI 37 eX G l yX6_darkRows cX6_darkRows 5 (some .int) 5 [.ref (adr G 1), .ref (adr G a1), .int a2] S o.1 o.2 :=
  mI_of (by decide +kernel) (Nat.le_of_ble_eq_true rfl) (fun p e s m below meth c A H0 Q C K => w_f_X6_darkRows_1 C h K)
def j_X6_darkRows_2_9 (S : St) (x1 : Nat) : Option (Int32 × St) :=
  bd (f_X1_darkIn S x1) fun r11 => if r11 = (S 1 0) then (some ((1 : Int32), S)) else (some ((0 : Int32), S))
set_option maxHeartbeats 4000000 in
set_option maxRecDepth 100000 in
theorem w_j_X6_darkRows_2_9 {G : Geo} {p : Program} {l : Launch} {e : Env} {s : State} {m : MethodId} {args : Array Value} {below : List Frame} {meth : Method} {c : Code} {A : Nat → Prop} {H0 : Heap} {Q : State → Prop} (C : Cx G RX6 cX6_darkRows 5 p s m args c) {S : St} {x1 : Nat} {o : Int32 × St} (hx1 : arX x1) (h : j_X6_darkRows_2_9 S x1 = some o) (K : KI 37 eX G A H0 cX6_darkRows p l e 6 s m args below meth c Q ((o).1) ((o).2)) : ∀ (H : Heap) (locs : List Loc) (ls : Array Slot), HX G A H0 S H locs → lv_has ls 5 [(0, .ref (adr G 1)), (1, .ref (adr G x1))] → W p l e (rmK 6) s m args below meth c H locs 0 0 Q (F0 m 9 ls []) := by
  obtain ⟨hx, hb, -⟩ := id C
  intro H locs ls hW hl
  unfold j_X6_darkRows_2_9 at h
  refine lv_aload_n hx hb dX6_darkRows_9 rfl (lv_at hl 0 rfl) ?_
  refine lv_aload_n hx hb dX6_darkRows_10 rfl (lv_at hl 1 rfl) ?_
  obtain ⟨r11, r11h, h⟩ := bd_some h
  refine x_backI hW (x_runV (As := [.ref (adr G x1)]) (rest := []) C hW (c_X1_darkIn l G r11h H.size) cv_RX6_145 rv_X1 hl.1 rfl rfl ⟨by decide, by decide⟩ (Nat.le_of_ble_eq_true rfl) ⟨Nat.zero_le _, Nat.zero_le _⟩ dX6_darkRows_11) (fun H locs hW => ?_)
  refine lv_aload_n hx hb dX6_darkRows_14 rfl (lv_at hl 0 rfl) ?_
  refine gf_RX6_193 C hW dX6_darkRows_15 ?_
  refine lv_icmp_ne (tgt := 25) hx hb dX6_darkRows_18 (by decide) (fun b18 => ?_) (fun b18 => ?_)
  · have h := it_f b18 h
    refine lv_iconst (v := 0) hx hb dX6_darkRows_25 (by decide) ?_
    obtain rfl := Option.some.inj h
    exact K _ _ _ _ dX6_darkRows_26 hW
  · have h := it_t b18 h
    refine lv_iconst (v := 1) hx hb dX6_darkRows_21 (by decide) ?_
    refine lv_goto (tgt := 26) hx hb dX6_darkRows_22 (by decide) ?_
    obtain rfl := Option.some.inj h
    exact K _ _ _ _ dX6_darkRows_26 hW
def i_X6_darkRows_2_32 (S : St) (x1 : Nat) (x2 : Int32) (x3 : Int32) (x4 : Int32) : Option ((St × Int32 × Int32) ⊕ (St × Int32 × Int32)) :=
  if (S 1 3) ≤ x4 then (some (.inr (S, x3, x4))) else (bd (f_X1_turnOn S x1 x4 ((1 : Int32))) fun r46 => bd (f_X6_darkRows_1 r46 x1 (x2 - ((1 : Int32)))) fun r55 => bd (f_X1_turnOn r55.2 x1 x4 ((-1 : Int32))) fun r65 => some (.inl (r65, x3 + r55.1, x4 + (1 : Int32))))
set_option maxHeartbeats 4000000 in
set_option maxRecDepth 100000 in
theorem w_i_X6_darkRows_2_32 {G : Geo} {p : Program} {l : Launch} {e : Env} {s : State} {m : MethodId} {args : Array Value} {below : List Frame} {meth : Method} {c : Code} {A : Nat → Prop} {H0 : Heap} {Q : State → Prop} (C : Cx G RX6 cX6_darkRows 5 p s m args c) {S : St} {x1 : Nat} {x2 : Int32} {x3 : Int32} {x4 : Int32} {o : (St × Int32 × Int32) ⊕ (St × Int32 × Int32)} (hx1 : arX x1) (h : i_X6_darkRows_2_32 S x1 x2 x3 x4 = some o) (Kn : ∀ q, o = .inl q → ∀ (H : Heap) (locs : List Loc) (ls : Array Slot), HX G A H0 q.1 H locs → lv_has ls 5 [(0, .ref (adr G 1)), (1, .ref (adr G x1)), (2, .int x2), (3, .int (q.2.1)), (4, .int (q.2.2))] → W p l e (rmK 6) s m args below meth c H locs 0 0 Q (F0 m 32 ls [])) (Kt : ∀ q, o = .inr q → ∀ (H : Heap) (locs : List Loc) (ls : Array Slot), HX G A H0 q.1 H locs → lv_has ls 5 [(3, .int (q.2.1))] → W p l e (rmK 6) s m args below meth c H locs 0 0 Q (F0 m 74 ls [])) : ∀ (H : Heap) (locs : List Loc) (ls : Array Slot), HX G A H0 S H locs → lv_has ls 5 [(0, .ref (adr G 1)), (1, .ref (adr G x1)), (2, .int x2), (3, .int x3), (4, .int x4)] → W p l e (rmK 6) s m args below meth c H locs 0 0 Q (F0 m 32 ls []) := by
  obtain ⟨hx, hb, -⟩ := id C
  intro H locs ls hW hl
  unfold i_X6_darkRows_2_32 at h
  refine lv_iload hx hb dX6_darkRows_32 (lv_at hl 4 rfl) ?_
  refine lv_aload_n hx hb dX6_darkRows_34 rfl (lv_at hl 0 rfl) ?_
  refine gf_RX6_98 C hW dX6_darkRows_35 ?_
  refine lv_icmp_ge (tgt := 74) hx hb dX6_darkRows_38 (by decide) (fun b38 => ?_) (fun b38 => ?_)
  · have h := it_t b38 h
    obtain rfl := Option.some.inj h
    exact Kt _ rfl _ _ _ hW (lv_sub hl [3] rfl)
  · have h := it_f b38 h
    refine lv_aload_n hx hb dX6_darkRows_41 rfl (lv_at hl 0 rfl) ?_
    refine lv_aload_n hx hb dX6_darkRows_42 rfl (lv_at hl 1 rfl) ?_
    refine lv_iload hx hb dX6_darkRows_43 (lv_at hl 4 rfl) ?_
    refine lv_iconst (v := 1) hx hb dX6_darkRows_45 (by decide) ?_
    obtain ⟨r46, r46h, h⟩ := bd_some h
    refine x_backV hW (x_runV (As := [.ref (adr G x1), .int x4, .int ((1 : Int32))]) (rest := []) C hW (c_X1_turnOn l G r46h H.size) cv_RX6_141 rv_X1 hl.1 rfl rfl ⟨by decide, by decide⟩ (Nat.le_of_ble_eq_true rfl) ⟨Nat.zero_le _, Nat.zero_le _⟩ dX6_darkRows_46) (fun H locs hW => ?_)
    refine lv_iload_n hx hb dX6_darkRows_49 rfl (lv_at hl 3 rfl) ?_
    refine lv_aload_n hx hb dX6_darkRows_50 rfl (lv_at hl 0 rfl) ?_
    refine lv_aload_n hx hb dX6_darkRows_51 rfl (lv_at hl 1 rfl) ?_
    refine lv_iload_n hx hb dX6_darkRows_52 rfl (lv_at hl 2 rfl) ?_
    refine lv_iconst (v := 1) hx hb dX6_darkRows_53 (by decide) ?_
    refine lv_isub hx hb dX6_darkRows_54 ?_
    obtain ⟨r55, r55h, h⟩ := bd_some h
    refine x_backI hW (x_runS (As := [.ref (adr G 1), .ref (adr G x1), .int (x2 - ((1 : Int32)))]) (rest := [.int x3]) C hW (c_X6_darkRows_1 l G r55h H.size) cs_RX6_237 hl.1 rfl rfl ⟨by decide, by decide⟩ (Nat.le_of_ble_eq_true rfl) ⟨Nat.zero_le _, Nat.zero_le _⟩ dX6_darkRows_55) (fun H locs hW => ?_)
    refine lv_iadd hx hb dX6_darkRows_58 ?_
    refine lv_istore_n (lv' := [(3, .int (x3 + r55.1)), (0, .ref (adr G 1)), (1, .ref (adr G x1)), (2, .int x2), (4, .int x4)]) hx hb dX6_darkRows_59 rfl hl (by decide) rfl (fun ls hl => ?_)
    refine lv_aload_n hx hb dX6_darkRows_60 rfl (lv_at hl 1 rfl) ?_
    refine lv_aload_n hx hb dX6_darkRows_61 rfl (lv_at hl 2 rfl) ?_
    refine lv_iload hx hb dX6_darkRows_62 (lv_at hl 4 rfl) ?_
    refine lv_iconst (v := (-1)) hx hb dX6_darkRows_64 (by decide) ?_
    obtain ⟨r65, r65h, h⟩ := bd_some h
    refine x_backV hW (x_runV (As := [.ref (adr G x1), .int x4, .int ((-1 : Int32))]) (rest := []) C hW (c_X1_turnOn l G r65h H.size) cv_RX6_141 rv_X1 hl.1 rfl rfl ⟨by decide, by decide⟩ (Nat.le_of_ble_eq_true rfl) ⟨Nat.zero_le _, Nat.zero_le _⟩ dX6_darkRows_65) (fun H locs hW => ?_)
    refine lv_iinc (v := (x4 + (1 : Int32))) (lv' := [(4, .int (x4 + (1 : Int32))), (3, .int (x3 + r55.1)), (0, .ref (adr G 1)), (1, .ref (adr G x1)), (2, .int x2)]) hx hb dX6_darkRows_68 hl (k := 4) rfl rfl (by decide) rfl (fun ls hl => ?_)
    refine lv_goto (tgt := 32) hx hb dX6_darkRows_71 (by decide) ?_
    obtain rfl := Option.some.inj h
    exact Kn _ rfl _ _ _ hW (lv_sub hl [2, 3, 4, 1, 0] rfl)
set_option maxHeartbeats 4000000 in
set_option maxRecDepth 100000 in
theorem l_i_X6_darkRows_2_32 {G : Geo} {p : Program} {l : Launch} {e : Env} {s : State} {m : MethodId} {args : Array Value} {below : List Frame} {meth : Method} {c : Code} {A : Nat → Prop} {H0 : Heap} {Q : State → Prop} (C : Cx G RX6 cX6_darkRows 5 p s m args c) {x1 : Nat} {x2 : Int32} {n : Nat} {q0 : St × Int32 × Int32} {u : St × Int32 × Int32} (hx1 : arX x1) (hq : iter (fun q : St × Int32 × Int32 => i_X6_darkRows_2_32 q.1 x1 x2 q.2.1 q.2.2) n q0 = some u) (Kt : (fun q : St × Int32 × Int32 => ∀ (H : Heap) (locs : List Loc) (ls : Array Slot), HX G A H0 q.1 H locs → lv_has ls 5 [(3, .int (q.2.1))] → W p l e (rmK 6) s m args below meth c H locs 0 0 Q (F0 m 74 ls [])) u) : (fun q : St × Int32 × Int32 => ∀ (H : Heap) (locs : List Loc) (ls : Array Slot), HX G A H0 q.1 H locs → lv_has ls 5 [(0, .ref (adr G 1)), (1, .ref (adr G x1)), (2, .int x2), (3, .int (q.2.1)), (4, .int (q.2.2))] → W p l e (rmK 6) s m args below meth c H locs 0 0 Q (F0 m 32 ls [])) q0 :=
  iter_W (P := fun q : St × Int32 × Int32 => ∀ (H : Heap) (locs : List Loc) (ls : Array Slot), HX G A H0 q.1 H locs → lv_has ls 5 [(0, .ref (adr G 1)), (1, .ref (adr G x1)), (2, .int x2), (3, .int (q.2.1)), (4, .int (q.2.2))] → W p l e (rmK 6) s m args below meth c H locs 0 0 Q (F0 m 32 ls [])) (K := fun q : St × Int32 × Int32 => ∀ (H : Heap) (locs : List Loc) (ls : Array Slot), HX G A H0 q.1 H locs → lv_has ls 5 [(3, .int (q.2.1))] → W p l e (rmK 6) s m args below meth c H locs 0 0 Q (F0 m 74 ls [])) (fun q o hit Kn Kt => w_i_X6_darkRows_2_32 C hx1 hit Kn Kt) n q0 u hq Kt
def f_X6_darkRows_2 (S : St) (a1 : Nat) (a2 : Int32) : Option (Int32 × St) :=
  ck (arX a1) <| if a2 ≤ 0 then (j_X6_darkRows_2_9 S a1) else (if a2 ≤ ((4 : Int32)) then (bd (iter (fun q => i_X6_darkRows_2_32 q.1 a1 a2 q.2.1 q.2.2) BIG (S, (0 : Int32), (0 : Int32))) fun q32 => some (q32.2.1, q32.1)) else (j_X6_darkRows_2_9 S a1))
set_option maxHeartbeats 4000000 in
set_option maxRecDepth 100000 in
theorem w_f_X6_darkRows_2 {G : Geo} {p : Program} {l : Launch} {e : Env} {s : State} {m : MethodId} {args : Array Value} {below : List Frame} {meth : Method} {c : Code} {A : Nat → Prop} {H0 : Heap} {Q : State → Prop} (C : Cx G RX6 cX6_darkRows 5 p s m args c) {S : St} {a1 : Nat} {a2 : Int32} {o : Int32 × St} (h : f_X6_darkRows_2 S a1 a2 = some o) (K : KI 37 eX G A H0 cX6_darkRows p l e 6 s m args below meth c Q ((o).1) ((o).2)) : ∀ (H : Heap) (locs : List Loc) (ls : Array Slot), HX G A H0 S H locs → lv_has ls 5 [(0, .ref (adr G 1)), (1, .ref (adr G a1)), (2, .int a2)] → W p l e (rmK 6) s m args below meth c H locs 0 0 Q (F0 m 0 ls []) := by
  obtain ⟨hx, hb, -⟩ := id C
  intro H locs ls hW hl
  unfold f_X6_darkRows_2 at h
  obtain ⟨ha1, h⟩ := ck_some h
  refine lv_iload_n hx hb dX6_darkRows_0 rfl (lv_at hl 2 rfl) ?_
  refine lv_if_le (tgt := 9) hx hb dX6_darkRows_1 (by decide) (fun b1 => ?_) (fun b1 => ?_)
  · have h := it_t b1 h
    exact w_j_X6_darkRows_2_9 C ha1 h K _ _ _ hW (lv_sub hl [0, 1] rfl)
  · have h := it_f b1 h
    refine lv_iload_n hx hb dX6_darkRows_4 rfl (lv_at hl 2 rfl) ?_
    refine lv_iconst (v := 4) hx hb dX6_darkRows_5 (by decide) ?_
    refine lv_icmp_le (tgt := 27) hx hb dX6_darkRows_6 (by decide) (fun b6 => ?_) (fun b6 => ?_)
    · have h := it_t b6 h
      refine lv_iconst (v := 0) hx hb dX6_darkRows_27 (by decide) ?_
      refine lv_istore_n (lv' := [(3, .int ((0 : Int32))), (0, .ref (adr G 1)), (1, .ref (adr G a1)), (2, .int a2)]) hx hb dX6_darkRows_28 rfl hl (by decide) rfl (fun ls hl => ?_)
      refine lv_iconst (v := 0) hx hb dX6_darkRows_29 (by decide) ?_
      refine lv_istore (lv' := [(4, .int ((0 : Int32))), (3, .int ((0 : Int32))), (0, .ref (adr G 1)), (1, .ref (adr G a1)), (2, .int a2)]) hx hb dX6_darkRows_30 hl (by decide) rfl (fun ls hl => ?_)
      obtain ⟨q32, q32h, h⟩ := bd_some h
      refine l_i_X6_darkRows_2_32 C ha1 q32h ?_ _ _ _ hW (lv_sub hl [2, 3, 4, 1, 0] rfl)
      intro H locs ls hW hl
      refine lv_iload_n hx hb dX6_darkRows_74 rfl (lv_at hl 0 rfl) ?_
      obtain rfl := Option.some.inj h
      exact K _ _ _ _ dX6_darkRows_75 hW
    · have h := it_f b6 h
      exact w_j_X6_darkRows_2_9 C ha1 h K _ _ _ hW (lv_sub hl [0, 1] rfl)
set_option maxRecDepth 100000 in
theorem c_X6_darkRows_2 (l : Launch) (G : Geo) {S : St} {a1 : Nat} {a2 : Int32} {o : Int32 × St} (h : f_X6_darkRows_2 S a1 a2 = some o) : MI 37 eX G l yX6_darkRows cX6_darkRows 5 (some .int) 6 [.ref (adr G 1), .ref (adr G a1), .int a2] S o.1 o.2 :=
  mI_of (by decide +kernel) (Nat.le_of_ble_eq_true rfl) (fun p e s m below meth c A H0 Q C K => w_f_X6_darkRows_2 C h K)
def j_X6_darkRows_3_9 (S : St) (x1 : Nat) : Option (Int32 × St) :=
  bd (f_X1_darkIn S x1) fun r11 => if r11 = (S 1 0) then (some ((1 : Int32), S)) else (some ((0 : Int32), S))
set_option maxHeartbeats 4000000 in
set_option maxRecDepth 100000 in
theorem w_j_X6_darkRows_3_9 {G : Geo} {p : Program} {l : Launch} {e : Env} {s : State} {m : MethodId} {args : Array Value} {below : List Frame} {meth : Method} {c : Code} {A : Nat → Prop} {H0 : Heap} {Q : State → Prop} (C : Cx G RX6 cX6_darkRows 5 p s m args c) {S : St} {x1 : Nat} {o : Int32 × St} (hx1 : arX x1) (h : j_X6_darkRows_3_9 S x1 = some o) (K : KI 37 eX G A H0 cX6_darkRows p l e 7 s m args below meth c Q ((o).1) ((o).2)) : ∀ (H : Heap) (locs : List Loc) (ls : Array Slot), HX G A H0 S H locs → lv_has ls 5 [(0, .ref (adr G 1)), (1, .ref (adr G x1))] → W p l e (rmK 7) s m args below meth c H locs 0 0 Q (F0 m 9 ls []) := by
  obtain ⟨hx, hb, -⟩ := id C
  intro H locs ls hW hl
  unfold j_X6_darkRows_3_9 at h
  refine lv_aload_n hx hb dX6_darkRows_9 rfl (lv_at hl 0 rfl) ?_
  refine lv_aload_n hx hb dX6_darkRows_10 rfl (lv_at hl 1 rfl) ?_
  obtain ⟨r11, r11h, h⟩ := bd_some h
  refine x_backI hW (x_runV (As := [.ref (adr G x1)]) (rest := []) C hW (c_X1_darkIn l G r11h H.size) cv_RX6_145 rv_X1 hl.1 rfl rfl ⟨by decide, by decide⟩ (Nat.le_of_ble_eq_true rfl) ⟨Nat.zero_le _, Nat.zero_le _⟩ dX6_darkRows_11) (fun H locs hW => ?_)
  refine lv_aload_n hx hb dX6_darkRows_14 rfl (lv_at hl 0 rfl) ?_
  refine gf_RX6_193 C hW dX6_darkRows_15 ?_
  refine lv_icmp_ne (tgt := 25) hx hb dX6_darkRows_18 (by decide) (fun b18 => ?_) (fun b18 => ?_)
  · have h := it_f b18 h
    refine lv_iconst (v := 0) hx hb dX6_darkRows_25 (by decide) ?_
    obtain rfl := Option.some.inj h
    exact K _ _ _ _ dX6_darkRows_26 hW
  · have h := it_t b18 h
    refine lv_iconst (v := 1) hx hb dX6_darkRows_21 (by decide) ?_
    refine lv_goto (tgt := 26) hx hb dX6_darkRows_22 (by decide) ?_
    obtain rfl := Option.some.inj h
    exact K _ _ _ _ dX6_darkRows_26 hW
def i_X6_darkRows_3_32 (S : St) (x1 : Nat) (x2 : Int32) (x3 : Int32) (x4 : Int32) : Option ((St × Int32 × Int32) ⊕ (St × Int32 × Int32)) :=
  if (S 1 3) ≤ x4 then (some (.inr (S, x3, x4))) else (bd (f_X1_turnOn S x1 x4 ((1 : Int32))) fun r46 => bd (f_X6_darkRows_2 r46 x1 (x2 - ((1 : Int32)))) fun r55 => bd (f_X1_turnOn r55.2 x1 x4 ((-1 : Int32))) fun r65 => some (.inl (r65, x3 + r55.1, x4 + (1 : Int32))))
set_option maxHeartbeats 4000000 in
set_option maxRecDepth 100000 in
theorem w_i_X6_darkRows_3_32 {G : Geo} {p : Program} {l : Launch} {e : Env} {s : State} {m : MethodId} {args : Array Value} {below : List Frame} {meth : Method} {c : Code} {A : Nat → Prop} {H0 : Heap} {Q : State → Prop} (C : Cx G RX6 cX6_darkRows 5 p s m args c) {S : St} {x1 : Nat} {x2 : Int32} {x3 : Int32} {x4 : Int32} {o : (St × Int32 × Int32) ⊕ (St × Int32 × Int32)} (hx1 : arX x1) (h : i_X6_darkRows_3_32 S x1 x2 x3 x4 = some o) (Kn : ∀ q, o = .inl q → ∀ (H : Heap) (locs : List Loc) (ls : Array Slot), HX G A H0 q.1 H locs → lv_has ls 5 [(0, .ref (adr G 1)), (1, .ref (adr G x1)), (2, .int x2), (3, .int (q.2.1)), (4, .int (q.2.2))] → W p l e (rmK 7) s m args below meth c H locs 0 0 Q (F0 m 32 ls [])) (Kt : ∀ q, o = .inr q → ∀ (H : Heap) (locs : List Loc) (ls : Array Slot), HX G A H0 q.1 H locs → lv_has ls 5 [(3, .int (q.2.1))] → W p l e (rmK 7) s m args below meth c H locs 0 0 Q (F0 m 74 ls [])) : ∀ (H : Heap) (locs : List Loc) (ls : Array Slot), HX G A H0 S H locs → lv_has ls 5 [(0, .ref (adr G 1)), (1, .ref (adr G x1)), (2, .int x2), (3, .int x3), (4, .int x4)] → W p l e (rmK 7) s m args below meth c H locs 0 0 Q (F0 m 32 ls []) := by
  obtain ⟨hx, hb, -⟩ := id C
  intro H locs ls hW hl
  unfold i_X6_darkRows_3_32 at h
  refine lv_iload hx hb dX6_darkRows_32 (lv_at hl 4 rfl) ?_
  refine lv_aload_n hx hb dX6_darkRows_34 rfl (lv_at hl 0 rfl) ?_
  refine gf_RX6_98 C hW dX6_darkRows_35 ?_
  refine lv_icmp_ge (tgt := 74) hx hb dX6_darkRows_38 (by decide) (fun b38 => ?_) (fun b38 => ?_)
  · have h := it_t b38 h
    obtain rfl := Option.some.inj h
    exact Kt _ rfl _ _ _ hW (lv_sub hl [3] rfl)
  · have h := it_f b38 h
    refine lv_aload_n hx hb dX6_darkRows_41 rfl (lv_at hl 0 rfl) ?_
    refine lv_aload_n hx hb dX6_darkRows_42 rfl (lv_at hl 1 rfl) ?_
    refine lv_iload hx hb dX6_darkRows_43 (lv_at hl 4 rfl) ?_
    refine lv_iconst (v := 1) hx hb dX6_darkRows_45 (by decide) ?_
    obtain ⟨r46, r46h, h⟩ := bd_some h
    refine x_backV hW (x_runV (As := [.ref (adr G x1), .int x4, .int ((1 : Int32))]) (rest := []) C hW (c_X1_turnOn l G r46h H.size) cv_RX6_141 rv_X1 hl.1 rfl rfl ⟨by decide, by decide⟩ (Nat.le_of_ble_eq_true rfl) ⟨Nat.zero_le _, Nat.zero_le _⟩ dX6_darkRows_46) (fun H locs hW => ?_)
    refine lv_iload_n hx hb dX6_darkRows_49 rfl (lv_at hl 3 rfl) ?_
    refine lv_aload_n hx hb dX6_darkRows_50 rfl (lv_at hl 0 rfl) ?_
    refine lv_aload_n hx hb dX6_darkRows_51 rfl (lv_at hl 1 rfl) ?_
    refine lv_iload_n hx hb dX6_darkRows_52 rfl (lv_at hl 2 rfl) ?_
    refine lv_iconst (v := 1) hx hb dX6_darkRows_53 (by decide) ?_
    refine lv_isub hx hb dX6_darkRows_54 ?_
    obtain ⟨r55, r55h, h⟩ := bd_some h
    refine x_backI hW (x_runS (As := [.ref (adr G 1), .ref (adr G x1), .int (x2 - ((1 : Int32)))]) (rest := [.int x3]) C hW (c_X6_darkRows_2 l G r55h H.size) cs_RX6_237 hl.1 rfl rfl ⟨by decide, by decide⟩ (Nat.le_of_ble_eq_true rfl) ⟨Nat.zero_le _, Nat.zero_le _⟩ dX6_darkRows_55) (fun H locs hW => ?_)
    refine lv_iadd hx hb dX6_darkRows_58 ?_
    refine lv_istore_n (lv' := [(3, .int (x3 + r55.1)), (0, .ref (adr G 1)), (1, .ref (adr G x1)), (2, .int x2), (4, .int x4)]) hx hb dX6_darkRows_59 rfl hl (by decide) rfl (fun ls hl => ?_)
    refine lv_aload_n hx hb dX6_darkRows_60 rfl (lv_at hl 1 rfl) ?_
    refine lv_aload_n hx hb dX6_darkRows_61 rfl (lv_at hl 2 rfl) ?_
    refine lv_iload hx hb dX6_darkRows_62 (lv_at hl 4 rfl) ?_
    refine lv_iconst (v := (-1)) hx hb dX6_darkRows_64 (by decide) ?_
    obtain ⟨r65, r65h, h⟩ := bd_some h
    refine x_backV hW (x_runV (As := [.ref (adr G x1), .int x4, .int ((-1 : Int32))]) (rest := []) C hW (c_X1_turnOn l G r65h H.size) cv_RX6_141 rv_X1 hl.1 rfl rfl ⟨by decide, by decide⟩ (Nat.le_of_ble_eq_true rfl) ⟨Nat.zero_le _, Nat.zero_le _⟩ dX6_darkRows_65) (fun H locs hW => ?_)
    refine lv_iinc (v := (x4 + (1 : Int32))) (lv' := [(4, .int (x4 + (1 : Int32))), (3, .int (x3 + r55.1)), (0, .ref (adr G 1)), (1, .ref (adr G x1)), (2, .int x2)]) hx hb dX6_darkRows_68 hl (k := 4) rfl rfl (by decide) rfl (fun ls hl => ?_)
    refine lv_goto (tgt := 32) hx hb dX6_darkRows_71 (by decide) ?_
    obtain rfl := Option.some.inj h
    exact Kn _ rfl _ _ _ hW (lv_sub hl [2, 3, 4, 1, 0] rfl)
set_option maxHeartbeats 4000000 in
set_option maxRecDepth 100000 in
theorem l_i_X6_darkRows_3_32 {G : Geo} {p : Program} {l : Launch} {e : Env} {s : State} {m : MethodId} {args : Array Value} {below : List Frame} {meth : Method} {c : Code} {A : Nat → Prop} {H0 : Heap} {Q : State → Prop} (C : Cx G RX6 cX6_darkRows 5 p s m args c) {x1 : Nat} {x2 : Int32} {n : Nat} {q0 : St × Int32 × Int32} {u : St × Int32 × Int32} (hx1 : arX x1) (hq : iter (fun q : St × Int32 × Int32 => i_X6_darkRows_3_32 q.1 x1 x2 q.2.1 q.2.2) n q0 = some u) (Kt : (fun q : St × Int32 × Int32 => ∀ (H : Heap) (locs : List Loc) (ls : Array Slot), HX G A H0 q.1 H locs → lv_has ls 5 [(3, .int (q.2.1))] → W p l e (rmK 7) s m args below meth c H locs 0 0 Q (F0 m 74 ls [])) u) : (fun q : St × Int32 × Int32 => ∀ (H : Heap) (locs : List Loc) (ls : Array Slot), HX G A H0 q.1 H locs → lv_has ls 5 [(0, .ref (adr G 1)), (1, .ref (adr G x1)), (2, .int x2), (3, .int (q.2.1)), (4, .int (q.2.2))] → W p l e (rmK 7) s m args below meth c H locs 0 0 Q (F0 m 32 ls [])) q0 :=
  iter_W (P := fun q : St × Int32 × Int32 => ∀ (H : Heap) (locs : List Loc) (ls : Array Slot), HX G A H0 q.1 H locs → lv_has ls 5 [(0, .ref (adr G 1)), (1, .ref (adr G x1)), (2, .int x2), (3, .int (q.2.1)), (4, .int (q.2.2))] → W p l e (rmK 7) s m args below meth c H locs 0 0 Q (F0 m 32 ls [])) (K := fun q : St × Int32 × Int32 => ∀ (H : Heap) (locs : List Loc) (ls : Array Slot), HX G A H0 q.1 H locs → lv_has ls 5 [(3, .int (q.2.1))] → W p l e (rmK 7) s m args below meth c H locs 0 0 Q (F0 m 74 ls [])) (fun q o hit Kn Kt => w_i_X6_darkRows_3_32 C hx1 hit Kn Kt) n q0 u hq Kt
def f_X6_darkRows_3 (S : St) (a1 : Nat) (a2 : Int32) : Option (Int32 × St) :=
  ck (arX a1) <| if a2 ≤ 0 then (j_X6_darkRows_3_9 S a1) else (if a2 ≤ ((4 : Int32)) then (bd (iter (fun q => i_X6_darkRows_3_32 q.1 a1 a2 q.2.1 q.2.2) BIG (S, (0 : Int32), (0 : Int32))) fun q32 => some (q32.2.1, q32.1)) else (j_X6_darkRows_3_9 S a1))
set_option maxHeartbeats 4000000 in
set_option maxRecDepth 100000 in
theorem w_f_X6_darkRows_3 {G : Geo} {p : Program} {l : Launch} {e : Env} {s : State} {m : MethodId} {args : Array Value} {below : List Frame} {meth : Method} {c : Code} {A : Nat → Prop} {H0 : Heap} {Q : State → Prop} (C : Cx G RX6 cX6_darkRows 5 p s m args c) {S : St} {a1 : Nat} {a2 : Int32} {o : Int32 × St} (h : f_X6_darkRows_3 S a1 a2 = some o) (K : KI 37 eX G A H0 cX6_darkRows p l e 7 s m args below meth c Q ((o).1) ((o).2)) : ∀ (H : Heap) (locs : List Loc) (ls : Array Slot), HX G A H0 S H locs → lv_has ls 5 [(0, .ref (adr G 1)), (1, .ref (adr G a1)), (2, .int a2)] → W p l e (rmK 7) s m args below meth c H locs 0 0 Q (F0 m 0 ls []) := by
  obtain ⟨hx, hb, -⟩ := id C
  intro H locs ls hW hl
  unfold f_X6_darkRows_3 at h
  obtain ⟨ha1, h⟩ := ck_some h
  refine lv_iload_n hx hb dX6_darkRows_0 rfl (lv_at hl 2 rfl) ?_
  refine lv_if_le (tgt := 9) hx hb dX6_darkRows_1 (by decide) (fun b1 => ?_) (fun b1 => ?_)
  · have h := it_t b1 h
    exact w_j_X6_darkRows_3_9 C ha1 h K _ _ _ hW (lv_sub hl [0, 1] rfl)
  · have h := it_f b1 h
    refine lv_iload_n hx hb dX6_darkRows_4 rfl (lv_at hl 2 rfl) ?_
    refine lv_iconst (v := 4) hx hb dX6_darkRows_5 (by decide) ?_
    refine lv_icmp_le (tgt := 27) hx hb dX6_darkRows_6 (by decide) (fun b6 => ?_) (fun b6 => ?_)
    · have h := it_t b6 h
      refine lv_iconst (v := 0) hx hb dX6_darkRows_27 (by decide) ?_
      refine lv_istore_n (lv' := [(3, .int ((0 : Int32))), (0, .ref (adr G 1)), (1, .ref (adr G a1)), (2, .int a2)]) hx hb dX6_darkRows_28 rfl hl (by decide) rfl (fun ls hl => ?_)
      refine lv_iconst (v := 0) hx hb dX6_darkRows_29 (by decide) ?_
      refine lv_istore (lv' := [(4, .int ((0 : Int32))), (3, .int ((0 : Int32))), (0, .ref (adr G 1)), (1, .ref (adr G a1)), (2, .int a2)]) hx hb dX6_darkRows_30 hl (by decide) rfl (fun ls hl => ?_)
      obtain ⟨q32, q32h, h⟩ := bd_some h
      refine l_i_X6_darkRows_3_32 C ha1 q32h ?_ _ _ _ hW (lv_sub hl [2, 3, 4, 1, 0] rfl)
      intro H locs ls hW hl
      refine lv_iload_n hx hb dX6_darkRows_74 rfl (lv_at hl 0 rfl) ?_
      obtain rfl := Option.some.inj h
      exact K _ _ _ _ dX6_darkRows_75 hW
    · have h := it_f b6 h
      exact w_j_X6_darkRows_3_9 C ha1 h K _ _ _ hW (lv_sub hl [0, 1] rfl)
set_option maxRecDepth 100000 in
theorem c_X6_darkRows_3 (l : Launch) (G : Geo) {S : St} {a1 : Nat} {a2 : Int32} {o : Int32 × St} (h : f_X6_darkRows_3 S a1 a2 = some o) : MI 37 eX G l yX6_darkRows cX6_darkRows 5 (some .int) 7 [.ref (adr G 1), .ref (adr G a1), .int a2] S o.1 o.2 :=
  mI_of (by decide +kernel) (Nat.le_of_ble_eq_true rfl) (fun p e s m below meth c A H0 Q C K => w_f_X6_darkRows_3 C h K)
def j_X6_darkRows_4_9 (S : St) (x1 : Nat) : Option (Int32 × St) :=
  bd (f_X1_darkIn S x1) fun r11 => if r11 = (S 1 0) then (some ((1 : Int32), S)) else (some ((0 : Int32), S))
set_option maxHeartbeats 4000000 in
set_option maxRecDepth 100000 in
theorem w_j_X6_darkRows_4_9 {G : Geo} {p : Program} {l : Launch} {e : Env} {s : State} {m : MethodId} {args : Array Value} {below : List Frame} {meth : Method} {c : Code} {A : Nat → Prop} {H0 : Heap} {Q : State → Prop} (C : Cx G RX6 cX6_darkRows 5 p s m args c) {S : St} {x1 : Nat} {o : Int32 × St} (hx1 : arX x1) (h : j_X6_darkRows_4_9 S x1 = some o) (K : KI 37 eX G A H0 cX6_darkRows p l e 8 s m args below meth c Q ((o).1) ((o).2)) : ∀ (H : Heap) (locs : List Loc) (ls : Array Slot), HX G A H0 S H locs → lv_has ls 5 [(0, .ref (adr G 1)), (1, .ref (adr G x1))] → W p l e (rmK 8) s m args below meth c H locs 0 0 Q (F0 m 9 ls []) := by
  obtain ⟨hx, hb, -⟩ := id C
  intro H locs ls hW hl
  unfold j_X6_darkRows_4_9 at h
  refine lv_aload_n hx hb dX6_darkRows_9 rfl (lv_at hl 0 rfl) ?_
  refine lv_aload_n hx hb dX6_darkRows_10 rfl (lv_at hl 1 rfl) ?_
  obtain ⟨r11, r11h, h⟩ := bd_some h
  refine x_backI hW (x_runV (As := [.ref (adr G x1)]) (rest := []) C hW (c_X1_darkIn l G r11h H.size) cv_RX6_145 rv_X1 hl.1 rfl rfl ⟨by decide, by decide⟩ (Nat.le_of_ble_eq_true rfl) ⟨Nat.zero_le _, Nat.zero_le _⟩ dX6_darkRows_11) (fun H locs hW => ?_)
  refine lv_aload_n hx hb dX6_darkRows_14 rfl (lv_at hl 0 rfl) ?_
  refine gf_RX6_193 C hW dX6_darkRows_15 ?_
  refine lv_icmp_ne (tgt := 25) hx hb dX6_darkRows_18 (by decide) (fun b18 => ?_) (fun b18 => ?_)
  · have h := it_f b18 h
    refine lv_iconst (v := 0) hx hb dX6_darkRows_25 (by decide) ?_
    obtain rfl := Option.some.inj h
    exact K _ _ _ _ dX6_darkRows_26 hW
  · have h := it_t b18 h
    refine lv_iconst (v := 1) hx hb dX6_darkRows_21 (by decide) ?_
    refine lv_goto (tgt := 26) hx hb dX6_darkRows_22 (by decide) ?_
    obtain rfl := Option.some.inj h
    exact K _ _ _ _ dX6_darkRows_26 hW
def i_X6_darkRows_4_32 (S : St) (x1 : Nat) (x2 : Int32) (x3 : Int32) (x4 : Int32) : Option ((St × Int32 × Int32) ⊕ (St × Int32 × Int32)) :=
  if (S 1 3) ≤ x4 then (some (.inr (S, x3, x4))) else (bd (f_X1_turnOn S x1 x4 ((1 : Int32))) fun r46 => bd (f_X6_darkRows_3 r46 x1 (x2 - ((1 : Int32)))) fun r55 => bd (f_X1_turnOn r55.2 x1 x4 ((-1 : Int32))) fun r65 => some (.inl (r65, x3 + r55.1, x4 + (1 : Int32))))
set_option maxHeartbeats 4000000 in
set_option maxRecDepth 100000 in
theorem w_i_X6_darkRows_4_32 {G : Geo} {p : Program} {l : Launch} {e : Env} {s : State} {m : MethodId} {args : Array Value} {below : List Frame} {meth : Method} {c : Code} {A : Nat → Prop} {H0 : Heap} {Q : State → Prop} (C : Cx G RX6 cX6_darkRows 5 p s m args c) {S : St} {x1 : Nat} {x2 : Int32} {x3 : Int32} {x4 : Int32} {o : (St × Int32 × Int32) ⊕ (St × Int32 × Int32)} (hx1 : arX x1) (h : i_X6_darkRows_4_32 S x1 x2 x3 x4 = some o) (Kn : ∀ q, o = .inl q → ∀ (H : Heap) (locs : List Loc) (ls : Array Slot), HX G A H0 q.1 H locs → lv_has ls 5 [(0, .ref (adr G 1)), (1, .ref (adr G x1)), (2, .int x2), (3, .int (q.2.1)), (4, .int (q.2.2))] → W p l e (rmK 8) s m args below meth c H locs 0 0 Q (F0 m 32 ls [])) (Kt : ∀ q, o = .inr q → ∀ (H : Heap) (locs : List Loc) (ls : Array Slot), HX G A H0 q.1 H locs → lv_has ls 5 [(3, .int (q.2.1))] → W p l e (rmK 8) s m args below meth c H locs 0 0 Q (F0 m 74 ls [])) : ∀ (H : Heap) (locs : List Loc) (ls : Array Slot), HX G A H0 S H locs → lv_has ls 5 [(0, .ref (adr G 1)), (1, .ref (adr G x1)), (2, .int x2), (3, .int x3), (4, .int x4)] → W p l e (rmK 8) s m args below meth c H locs 0 0 Q (F0 m 32 ls []) := by
  obtain ⟨hx, hb, -⟩ := id C
  intro H locs ls hW hl
  unfold i_X6_darkRows_4_32 at h
  refine lv_iload hx hb dX6_darkRows_32 (lv_at hl 4 rfl) ?_
  refine lv_aload_n hx hb dX6_darkRows_34 rfl (lv_at hl 0 rfl) ?_
  refine gf_RX6_98 C hW dX6_darkRows_35 ?_
  refine lv_icmp_ge (tgt := 74) hx hb dX6_darkRows_38 (by decide) (fun b38 => ?_) (fun b38 => ?_)
  · have h := it_t b38 h
    obtain rfl := Option.some.inj h
    exact Kt _ rfl _ _ _ hW (lv_sub hl [3] rfl)
  · have h := it_f b38 h
    refine lv_aload_n hx hb dX6_darkRows_41 rfl (lv_at hl 0 rfl) ?_
    refine lv_aload_n hx hb dX6_darkRows_42 rfl (lv_at hl 1 rfl) ?_
    refine lv_iload hx hb dX6_darkRows_43 (lv_at hl 4 rfl) ?_
    refine lv_iconst (v := 1) hx hb dX6_darkRows_45 (by decide) ?_
    obtain ⟨r46, r46h, h⟩ := bd_some h
    refine x_backV hW (x_runV (As := [.ref (adr G x1), .int x4, .int ((1 : Int32))]) (rest := []) C hW (c_X1_turnOn l G r46h H.size) cv_RX6_141 rv_X1 hl.1 rfl rfl ⟨by decide, by decide⟩ (Nat.le_of_ble_eq_true rfl) ⟨Nat.zero_le _, Nat.zero_le _⟩ dX6_darkRows_46) (fun H locs hW => ?_)
    refine lv_iload_n hx hb dX6_darkRows_49 rfl (lv_at hl 3 rfl) ?_
    refine lv_aload_n hx hb dX6_darkRows_50 rfl (lv_at hl 0 rfl) ?_
    refine lv_aload_n hx hb dX6_darkRows_51 rfl (lv_at hl 1 rfl) ?_
    refine lv_iload_n hx hb dX6_darkRows_52 rfl (lv_at hl 2 rfl) ?_
    refine lv_iconst (v := 1) hx hb dX6_darkRows_53 (by decide) ?_
    refine lv_isub hx hb dX6_darkRows_54 ?_
    obtain ⟨r55, r55h, h⟩ := bd_some h
    refine x_backI hW (x_runS (As := [.ref (adr G 1), .ref (adr G x1), .int (x2 - ((1 : Int32)))]) (rest := [.int x3]) C hW (c_X6_darkRows_3 l G r55h H.size) cs_RX6_237 hl.1 rfl rfl ⟨by decide, by decide⟩ (Nat.le_of_ble_eq_true rfl) ⟨Nat.zero_le _, Nat.zero_le _⟩ dX6_darkRows_55) (fun H locs hW => ?_)
    refine lv_iadd hx hb dX6_darkRows_58 ?_
    refine lv_istore_n (lv' := [(3, .int (x3 + r55.1)), (0, .ref (adr G 1)), (1, .ref (adr G x1)), (2, .int x2), (4, .int x4)]) hx hb dX6_darkRows_59 rfl hl (by decide) rfl (fun ls hl => ?_)
    refine lv_aload_n hx hb dX6_darkRows_60 rfl (lv_at hl 1 rfl) ?_
    refine lv_aload_n hx hb dX6_darkRows_61 rfl (lv_at hl 2 rfl) ?_
    refine lv_iload hx hb dX6_darkRows_62 (lv_at hl 4 rfl) ?_
    refine lv_iconst (v := (-1)) hx hb dX6_darkRows_64 (by decide) ?_
    obtain ⟨r65, r65h, h⟩ := bd_some h
    refine x_backV hW (x_runV (As := [.ref (adr G x1), .int x4, .int ((-1 : Int32))]) (rest := []) C hW (c_X1_turnOn l G r65h H.size) cv_RX6_141 rv_X1 hl.1 rfl rfl ⟨by decide, by decide⟩ (Nat.le_of_ble_eq_true rfl) ⟨Nat.zero_le _, Nat.zero_le _⟩ dX6_darkRows_65) (fun H locs hW => ?_)
    refine lv_iinc (v := (x4 + (1 : Int32))) (lv' := [(4, .int (x4 + (1 : Int32))), (3, .int (x3 + r55.1)), (0, .ref (adr G 1)), (1, .ref (adr G x1)), (2, .int x2)]) hx hb dX6_darkRows_68 hl (k := 4) rfl rfl (by decide) rfl (fun ls hl => ?_)
    refine lv_goto (tgt := 32) hx hb dX6_darkRows_71 (by decide) ?_
    obtain rfl := Option.some.inj h
    exact Kn _ rfl _ _ _ hW (lv_sub hl [2, 3, 4, 1, 0] rfl)
set_option maxHeartbeats 4000000 in
set_option maxRecDepth 100000 in
theorem l_i_X6_darkRows_4_32 {G : Geo} {p : Program} {l : Launch} {e : Env} {s : State} {m : MethodId} {args : Array Value} {below : List Frame} {meth : Method} {c : Code} {A : Nat → Prop} {H0 : Heap} {Q : State → Prop} (C : Cx G RX6 cX6_darkRows 5 p s m args c) {x1 : Nat} {x2 : Int32} {n : Nat} {q0 : St × Int32 × Int32} {u : St × Int32 × Int32} (hx1 : arX x1) (hq : iter (fun q : St × Int32 × Int32 => i_X6_darkRows_4_32 q.1 x1 x2 q.2.1 q.2.2) n q0 = some u) (Kt : (fun q : St × Int32 × Int32 => ∀ (H : Heap) (locs : List Loc) (ls : Array Slot), HX G A H0 q.1 H locs → lv_has ls 5 [(3, .int (q.2.1))] → W p l e (rmK 8) s m args below meth c H locs 0 0 Q (F0 m 74 ls [])) u) : (fun q : St × Int32 × Int32 => ∀ (H : Heap) (locs : List Loc) (ls : Array Slot), HX G A H0 q.1 H locs → lv_has ls 5 [(0, .ref (adr G 1)), (1, .ref (adr G x1)), (2, .int x2), (3, .int (q.2.1)), (4, .int (q.2.2))] → W p l e (rmK 8) s m args below meth c H locs 0 0 Q (F0 m 32 ls [])) q0 :=
  iter_W (P := fun q : St × Int32 × Int32 => ∀ (H : Heap) (locs : List Loc) (ls : Array Slot), HX G A H0 q.1 H locs → lv_has ls 5 [(0, .ref (adr G 1)), (1, .ref (adr G x1)), (2, .int x2), (3, .int (q.2.1)), (4, .int (q.2.2))] → W p l e (rmK 8) s m args below meth c H locs 0 0 Q (F0 m 32 ls [])) (K := fun q : St × Int32 × Int32 => ∀ (H : Heap) (locs : List Loc) (ls : Array Slot), HX G A H0 q.1 H locs → lv_has ls 5 [(3, .int (q.2.1))] → W p l e (rmK 8) s m args below meth c H locs 0 0 Q (F0 m 74 ls [])) (fun q o hit Kn Kt => w_i_X6_darkRows_4_32 C hx1 hit Kn Kt) n q0 u hq Kt
def f_X6_darkRows_4 (S : St) (a1 : Nat) (a2 : Int32) : Option (Int32 × St) :=
  ck (arX a1) <| if a2 ≤ 0 then (j_X6_darkRows_4_9 S a1) else (if a2 ≤ ((4 : Int32)) then (bd (iter (fun q => i_X6_darkRows_4_32 q.1 a1 a2 q.2.1 q.2.2) BIG (S, (0 : Int32), (0 : Int32))) fun q32 => some (q32.2.1, q32.1)) else (j_X6_darkRows_4_9 S a1))
set_option maxHeartbeats 4000000 in
set_option maxRecDepth 100000 in
theorem w_f_X6_darkRows_4 {G : Geo} {p : Program} {l : Launch} {e : Env} {s : State} {m : MethodId} {args : Array Value} {below : List Frame} {meth : Method} {c : Code} {A : Nat → Prop} {H0 : Heap} {Q : State → Prop} (C : Cx G RX6 cX6_darkRows 5 p s m args c) {S : St} {a1 : Nat} {a2 : Int32} {o : Int32 × St} (h : f_X6_darkRows_4 S a1 a2 = some o) (K : KI 37 eX G A H0 cX6_darkRows p l e 8 s m args below meth c Q ((o).1) ((o).2)) : ∀ (H : Heap) (locs : List Loc) (ls : Array Slot), HX G A H0 S H locs → lv_has ls 5 [(0, .ref (adr G 1)), (1, .ref (adr G a1)), (2, .int a2)] → W p l e (rmK 8) s m args below meth c H locs 0 0 Q (F0 m 0 ls []) := by
  obtain ⟨hx, hb, -⟩ := id C
  intro H locs ls hW hl
  unfold f_X6_darkRows_4 at h
  obtain ⟨ha1, h⟩ := ck_some h
  refine lv_iload_n hx hb dX6_darkRows_0 rfl (lv_at hl 2 rfl) ?_
  refine lv_if_le (tgt := 9) hx hb dX6_darkRows_1 (by decide) (fun b1 => ?_) (fun b1 => ?_)
  · have h := it_t b1 h
    exact w_j_X6_darkRows_4_9 C ha1 h K _ _ _ hW (lv_sub hl [0, 1] rfl)
  · have h := it_f b1 h
    refine lv_iload_n hx hb dX6_darkRows_4 rfl (lv_at hl 2 rfl) ?_
    refine lv_iconst (v := 4) hx hb dX6_darkRows_5 (by decide) ?_
    refine lv_icmp_le (tgt := 27) hx hb dX6_darkRows_6 (by decide) (fun b6 => ?_) (fun b6 => ?_)
    · have h := it_t b6 h
      refine lv_iconst (v := 0) hx hb dX6_darkRows_27 (by decide) ?_
      refine lv_istore_n (lv' := [(3, .int ((0 : Int32))), (0, .ref (adr G 1)), (1, .ref (adr G a1)), (2, .int a2)]) hx hb dX6_darkRows_28 rfl hl (by decide) rfl (fun ls hl => ?_)
      refine lv_iconst (v := 0) hx hb dX6_darkRows_29 (by decide) ?_
      refine lv_istore (lv' := [(4, .int ((0 : Int32))), (3, .int ((0 : Int32))), (0, .ref (adr G 1)), (1, .ref (adr G a1)), (2, .int a2)]) hx hb dX6_darkRows_30 hl (by decide) rfl (fun ls hl => ?_)
      obtain ⟨q32, q32h, h⟩ := bd_some h
      refine l_i_X6_darkRows_4_32 C ha1 q32h ?_ _ _ _ hW (lv_sub hl [2, 3, 4, 1, 0] rfl)
      intro H locs ls hW hl
      refine lv_iload_n hx hb dX6_darkRows_74 rfl (lv_at hl 0 rfl) ?_
      obtain rfl := Option.some.inj h
      exact K _ _ _ _ dX6_darkRows_75 hW
    · have h := it_f b6 h
      exact w_j_X6_darkRows_4_9 C ha1 h K _ _ _ hW (lv_sub hl [0, 1] rfl)
set_option maxRecDepth 100000 in
theorem c_X6_darkRows_4 (l : Launch) (G : Geo) {S : St} {a1 : Nat} {a2 : Int32} {o : Int32 × St} (h : f_X6_darkRows_4 S a1 a2 = some o) : MI 37 eX G l yX6_darkRows cX6_darkRows 5 (some .int) 8 [.ref (adr G 1), .ref (adr G a1), .int a2] S o.1 o.2 :=
  mI_of (by decide +kernel) (Nat.le_of_ble_eq_true rfl) (fun p e s m below meth c A H0 Q C K => w_f_X6_darkRows_4 C h K)
def j_X6_darkRows_5_9 (S : St) (x1 : Nat) : Option (Int32 × St) :=
  bd (f_X1_darkIn S x1) fun r11 => if r11 = (S 1 0) then (some ((1 : Int32), S)) else (some ((0 : Int32), S))
set_option maxHeartbeats 4000000 in
set_option maxRecDepth 100000 in
theorem w_j_X6_darkRows_5_9 {G : Geo} {p : Program} {l : Launch} {e : Env} {s : State} {m : MethodId} {args : Array Value} {below : List Frame} {meth : Method} {c : Code} {A : Nat → Prop} {H0 : Heap} {Q : State → Prop} (C : Cx G RX6 cX6_darkRows 5 p s m args c) {S : St} {x1 : Nat} {o : Int32 × St} (hx1 : arX x1) (h : j_X6_darkRows_5_9 S x1 = some o) (K : KI 37 eX G A H0 cX6_darkRows p l e 9 s m args below meth c Q ((o).1) ((o).2)) : ∀ (H : Heap) (locs : List Loc) (ls : Array Slot), HX G A H0 S H locs → lv_has ls 5 [(0, .ref (adr G 1)), (1, .ref (adr G x1))] → W p l e (rmK 9) s m args below meth c H locs 0 0 Q (F0 m 9 ls []) := by
  obtain ⟨hx, hb, -⟩ := id C
  intro H locs ls hW hl
  unfold j_X6_darkRows_5_9 at h
  refine lv_aload_n hx hb dX6_darkRows_9 rfl (lv_at hl 0 rfl) ?_
  refine lv_aload_n hx hb dX6_darkRows_10 rfl (lv_at hl 1 rfl) ?_
  obtain ⟨r11, r11h, h⟩ := bd_some h
  refine x_backI hW (x_runV (As := [.ref (adr G x1)]) (rest := []) C hW (c_X1_darkIn l G r11h H.size) cv_RX6_145 rv_X1 hl.1 rfl rfl ⟨by decide, by decide⟩ (Nat.le_of_ble_eq_true rfl) ⟨Nat.zero_le _, Nat.zero_le _⟩ dX6_darkRows_11) (fun H locs hW => ?_)
  refine lv_aload_n hx hb dX6_darkRows_14 rfl (lv_at hl 0 rfl) ?_
  refine gf_RX6_193 C hW dX6_darkRows_15 ?_
  refine lv_icmp_ne (tgt := 25) hx hb dX6_darkRows_18 (by decide) (fun b18 => ?_) (fun b18 => ?_)
  · have h := it_f b18 h
    refine lv_iconst (v := 0) hx hb dX6_darkRows_25 (by decide) ?_
    obtain rfl := Option.some.inj h
    exact K _ _ _ _ dX6_darkRows_26 hW
  · have h := it_t b18 h
    refine lv_iconst (v := 1) hx hb dX6_darkRows_21 (by decide) ?_
    refine lv_goto (tgt := 26) hx hb dX6_darkRows_22 (by decide) ?_
    obtain rfl := Option.some.inj h
    exact K _ _ _ _ dX6_darkRows_26 hW
def i_X6_darkRows_5_32 (S : St) (x1 : Nat) (x2 : Int32) (x3 : Int32) (x4 : Int32) : Option ((St × Int32 × Int32) ⊕ (St × Int32 × Int32)) :=
  if (S 1 3) ≤ x4 then (some (.inr (S, x3, x4))) else (bd (f_X1_turnOn S x1 x4 ((1 : Int32))) fun r46 => bd (f_X6_darkRows_4 r46 x1 (x2 - ((1 : Int32)))) fun r55 => bd (f_X1_turnOn r55.2 x1 x4 ((-1 : Int32))) fun r65 => some (.inl (r65, x3 + r55.1, x4 + (1 : Int32))))
set_option maxHeartbeats 4000000 in
set_option maxRecDepth 100000 in
theorem w_i_X6_darkRows_5_32 {G : Geo} {p : Program} {l : Launch} {e : Env} {s : State} {m : MethodId} {args : Array Value} {below : List Frame} {meth : Method} {c : Code} {A : Nat → Prop} {H0 : Heap} {Q : State → Prop} (C : Cx G RX6 cX6_darkRows 5 p s m args c) {S : St} {x1 : Nat} {x2 : Int32} {x3 : Int32} {x4 : Int32} {o : (St × Int32 × Int32) ⊕ (St × Int32 × Int32)} (hx1 : arX x1) (h : i_X6_darkRows_5_32 S x1 x2 x3 x4 = some o) (Kn : ∀ q, o = .inl q → ∀ (H : Heap) (locs : List Loc) (ls : Array Slot), HX G A H0 q.1 H locs → lv_has ls 5 [(0, .ref (adr G 1)), (1, .ref (adr G x1)), (2, .int x2), (3, .int (q.2.1)), (4, .int (q.2.2))] → W p l e (rmK 9) s m args below meth c H locs 0 0 Q (F0 m 32 ls [])) (Kt : ∀ q, o = .inr q → ∀ (H : Heap) (locs : List Loc) (ls : Array Slot), HX G A H0 q.1 H locs → lv_has ls 5 [(3, .int (q.2.1))] → W p l e (rmK 9) s m args below meth c H locs 0 0 Q (F0 m 74 ls [])) : ∀ (H : Heap) (locs : List Loc) (ls : Array Slot), HX G A H0 S H locs → lv_has ls 5 [(0, .ref (adr G 1)), (1, .ref (adr G x1)), (2, .int x2), (3, .int x3), (4, .int x4)] → W p l e (rmK 9) s m args below meth c H locs 0 0 Q (F0 m 32 ls []) := by
  obtain ⟨hx, hb, -⟩ := id C
  intro H locs ls hW hl
  unfold i_X6_darkRows_5_32 at h
  refine lv_iload hx hb dX6_darkRows_32 (lv_at hl 4 rfl) ?_
  refine lv_aload_n hx hb dX6_darkRows_34 rfl (lv_at hl 0 rfl) ?_
  refine gf_RX6_98 C hW dX6_darkRows_35 ?_
  refine lv_icmp_ge (tgt := 74) hx hb dX6_darkRows_38 (by decide) (fun b38 => ?_) (fun b38 => ?_)
  · have h := it_t b38 h
    obtain rfl := Option.some.inj h
    exact Kt _ rfl _ _ _ hW (lv_sub hl [3] rfl)
  · have h := it_f b38 h
    refine lv_aload_n hx hb dX6_darkRows_41 rfl (lv_at hl 0 rfl) ?_
    refine lv_aload_n hx hb dX6_darkRows_42 rfl (lv_at hl 1 rfl) ?_
    refine lv_iload hx hb dX6_darkRows_43 (lv_at hl 4 rfl) ?_
    refine lv_iconst (v := 1) hx hb dX6_darkRows_45 (by decide) ?_
    obtain ⟨r46, r46h, h⟩ := bd_some h
    refine x_backV hW (x_runV (As := [.ref (adr G x1), .int x4, .int ((1 : Int32))]) (rest := []) C hW (c_X1_turnOn l G r46h H.size) cv_RX6_141 rv_X1 hl.1 rfl rfl ⟨by decide, by decide⟩ (Nat.le_of_ble_eq_true rfl) ⟨Nat.zero_le _, Nat.zero_le _⟩ dX6_darkRows_46) (fun H locs hW => ?_)
    refine lv_iload_n hx hb dX6_darkRows_49 rfl (lv_at hl 3 rfl) ?_
    refine lv_aload_n hx hb dX6_darkRows_50 rfl (lv_at hl 0 rfl) ?_
    refine lv_aload_n hx hb dX6_darkRows_51 rfl (lv_at hl 1 rfl) ?_
    refine lv_iload_n hx hb dX6_darkRows_52 rfl (lv_at hl 2 rfl) ?_
    refine lv_iconst (v := 1) hx hb dX6_darkRows_53 (by decide) ?_
    refine lv_isub hx hb dX6_darkRows_54 ?_
    obtain ⟨r55, r55h, h⟩ := bd_some h
    refine x_backI hW (x_runS (As := [.ref (adr G 1), .ref (adr G x1), .int (x2 - ((1 : Int32)))]) (rest := [.int x3]) C hW (c_X6_darkRows_4 l G r55h H.size) cs_RX6_237 hl.1 rfl rfl ⟨by decide, by decide⟩ (Nat.le_of_ble_eq_true rfl) ⟨Nat.zero_le _, Nat.zero_le _⟩ dX6_darkRows_55) (fun H locs hW => ?_)
    refine lv_iadd hx hb dX6_darkRows_58 ?_
    refine lv_istore_n (lv' := [(3, .int (x3 + r55.1)), (0, .ref (adr G 1)), (1, .ref (adr G x1)), (2, .int x2), (4, .int x4)]) hx hb dX6_darkRows_59 rfl hl (by decide) rfl (fun ls hl => ?_)
    refine lv_aload_n hx hb dX6_darkRows_60 rfl (lv_at hl 1 rfl) ?_
    refine lv_aload_n hx hb dX6_darkRows_61 rfl (lv_at hl 2 rfl) ?_
    refine lv_iload hx hb dX6_darkRows_62 (lv_at hl 4 rfl) ?_
    refine lv_iconst (v := (-1)) hx hb dX6_darkRows_64 (by decide) ?_
    obtain ⟨r65, r65h, h⟩ := bd_some h
    refine x_backV hW (x_runV (As := [.ref (adr G x1), .int x4, .int ((-1 : Int32))]) (rest := []) C hW (c_X1_turnOn l G r65h H.size) cv_RX6_141 rv_X1 hl.1 rfl rfl ⟨by decide, by decide⟩ (Nat.le_of_ble_eq_true rfl) ⟨Nat.zero_le _, Nat.zero_le _⟩ dX6_darkRows_65) (fun H locs hW => ?_)
    refine lv_iinc (v := (x4 + (1 : Int32))) (lv' := [(4, .int (x4 + (1 : Int32))), (3, .int (x3 + r55.1)), (0, .ref (adr G 1)), (1, .ref (adr G x1)), (2, .int x2)]) hx hb dX6_darkRows_68 hl (k := 4) rfl rfl (by decide) rfl (fun ls hl => ?_)
    refine lv_goto (tgt := 32) hx hb dX6_darkRows_71 (by decide) ?_
    obtain rfl := Option.some.inj h
    exact Kn _ rfl _ _ _ hW (lv_sub hl [2, 3, 4, 1, 0] rfl)
set_option maxHeartbeats 4000000 in
set_option maxRecDepth 100000 in
theorem l_i_X6_darkRows_5_32 {G : Geo} {p : Program} {l : Launch} {e : Env} {s : State} {m : MethodId} {args : Array Value} {below : List Frame} {meth : Method} {c : Code} {A : Nat → Prop} {H0 : Heap} {Q : State → Prop} (C : Cx G RX6 cX6_darkRows 5 p s m args c) {x1 : Nat} {x2 : Int32} {n : Nat} {q0 : St × Int32 × Int32} {u : St × Int32 × Int32} (hx1 : arX x1) (hq : iter (fun q : St × Int32 × Int32 => i_X6_darkRows_5_32 q.1 x1 x2 q.2.1 q.2.2) n q0 = some u) (Kt : (fun q : St × Int32 × Int32 => ∀ (H : Heap) (locs : List Loc) (ls : Array Slot), HX G A H0 q.1 H locs → lv_has ls 5 [(3, .int (q.2.1))] → W p l e (rmK 9) s m args below meth c H locs 0 0 Q (F0 m 74 ls [])) u) : (fun q : St × Int32 × Int32 => ∀ (H : Heap) (locs : List Loc) (ls : Array Slot), HX G A H0 q.1 H locs → lv_has ls 5 [(0, .ref (adr G 1)), (1, .ref (adr G x1)), (2, .int x2), (3, .int (q.2.1)), (4, .int (q.2.2))] → W p l e (rmK 9) s m args below meth c H locs 0 0 Q (F0 m 32 ls [])) q0 :=
  iter_W (P := fun q : St × Int32 × Int32 => ∀ (H : Heap) (locs : List Loc) (ls : Array Slot), HX G A H0 q.1 H locs → lv_has ls 5 [(0, .ref (adr G 1)), (1, .ref (adr G x1)), (2, .int x2), (3, .int (q.2.1)), (4, .int (q.2.2))] → W p l e (rmK 9) s m args below meth c H locs 0 0 Q (F0 m 32 ls [])) (K := fun q : St × Int32 × Int32 => ∀ (H : Heap) (locs : List Loc) (ls : Array Slot), HX G A H0 q.1 H locs → lv_has ls 5 [(3, .int (q.2.1))] → W p l e (rmK 9) s m args below meth c H locs 0 0 Q (F0 m 74 ls [])) (fun q o hit Kn Kt => w_i_X6_darkRows_5_32 C hx1 hit Kn Kt) n q0 u hq Kt
def f_X6_darkRows_5 (S : St) (a1 : Nat) (a2 : Int32) : Option (Int32 × St) :=
  ck (arX a1) <| if a2 ≤ 0 then (j_X6_darkRows_5_9 S a1) else (if a2 ≤ ((4 : Int32)) then (bd (iter (fun q => i_X6_darkRows_5_32 q.1 a1 a2 q.2.1 q.2.2) BIG (S, (0 : Int32), (0 : Int32))) fun q32 => some (q32.2.1, q32.1)) else (j_X6_darkRows_5_9 S a1))
set_option maxHeartbeats 4000000 in
set_option maxRecDepth 100000 in
theorem w_f_X6_darkRows_5 {G : Geo} {p : Program} {l : Launch} {e : Env} {s : State} {m : MethodId} {args : Array Value} {below : List Frame} {meth : Method} {c : Code} {A : Nat → Prop} {H0 : Heap} {Q : State → Prop} (C : Cx G RX6 cX6_darkRows 5 p s m args c) {S : St} {a1 : Nat} {a2 : Int32} {o : Int32 × St} (h : f_X6_darkRows_5 S a1 a2 = some o) (K : KI 37 eX G A H0 cX6_darkRows p l e 9 s m args below meth c Q ((o).1) ((o).2)) : ∀ (H : Heap) (locs : List Loc) (ls : Array Slot), HX G A H0 S H locs → lv_has ls 5 [(0, .ref (adr G 1)), (1, .ref (adr G a1)), (2, .int a2)] → W p l e (rmK 9) s m args below meth c H locs 0 0 Q (F0 m 0 ls []) := by
  obtain ⟨hx, hb, -⟩ := id C
  intro H locs ls hW hl
  unfold f_X6_darkRows_5 at h
  obtain ⟨ha1, h⟩ := ck_some h
  refine lv_iload_n hx hb dX6_darkRows_0 rfl (lv_at hl 2 rfl) ?_
  refine lv_if_le (tgt := 9) hx hb dX6_darkRows_1 (by decide) (fun b1 => ?_) (fun b1 => ?_)
  · have h := it_t b1 h
    exact w_j_X6_darkRows_5_9 C ha1 h K _ _ _ hW (lv_sub hl [0, 1] rfl)
  · have h := it_f b1 h
    refine lv_iload_n hx hb dX6_darkRows_4 rfl (lv_at hl 2 rfl) ?_
    refine lv_iconst (v := 4) hx hb dX6_darkRows_5 (by decide) ?_
    refine lv_icmp_le (tgt := 27) hx hb dX6_darkRows_6 (by decide) (fun b6 => ?_) (fun b6 => ?_)
    · have h := it_t b6 h
      refine lv_iconst (v := 0) hx hb dX6_darkRows_27 (by decide) ?_
      refine lv_istore_n (lv' := [(3, .int ((0 : Int32))), (0, .ref (adr G 1)), (1, .ref (adr G a1)), (2, .int a2)]) hx hb dX6_darkRows_28 rfl hl (by decide) rfl (fun ls hl => ?_)
      refine lv_iconst (v := 0) hx hb dX6_darkRows_29 (by decide) ?_
      refine lv_istore (lv' := [(4, .int ((0 : Int32))), (3, .int ((0 : Int32))), (0, .ref (adr G 1)), (1, .ref (adr G a1)), (2, .int a2)]) hx hb dX6_darkRows_30 hl (by decide) rfl (fun ls hl => ?_)
      obtain ⟨q32, q32h, h⟩ := bd_some h
      refine l_i_X6_darkRows_5_32 C ha1 q32h ?_ _ _ _ hW (lv_sub hl [2, 3, 4, 1, 0] rfl)
      intro H locs ls hW hl
      refine lv_iload_n hx hb dX6_darkRows_74 rfl (lv_at hl 0 rfl) ?_
      obtain rfl := Option.some.inj h
      exact K _ _ _ _ dX6_darkRows_75 hW
    · have h := it_f b6 h
      exact w_j_X6_darkRows_5_9 C ha1 h K _ _ _ hW (lv_sub hl [0, 1] rfl)
set_option maxRecDepth 100000 in
theorem c_X6_darkRows_5 (l : Launch) (G : Geo) {S : St} {a1 : Nat} {a2 : Int32} {o : Int32 × St} (h : f_X6_darkRows_5 S a1 a2 = some o) : MI 37 eX G l yX6_darkRows cX6_darkRows 5 (some .int) 9 [.ref (adr G 1), .ref (adr G a1), .int a2] S o.1 o.2 :=
  mI_of (by decide +kernel) (Nat.le_of_ble_eq_true rfl) (fun p e s m below meth c A H0 Q C K => w_f_X6_darkRows_5 C h K)
def f_X6_isAskedOfDay (a0 : Int32) : Option (Bool) :=
  bd (f_X6_isIn a0 ((0 : Int32)) ((4 : Int32))) fun r3 => if r3 = true then (some true) else (bd (f_X6_isIn a0 ((10 : Int32)) ((14 : Int32))) fun r14 => if r14 = false then (some false) else (some true))
set_option maxHeartbeats 4000000 in
set_option maxRecDepth 100000 in
theorem w_f_X6_isAskedOfDay {G : Geo} {p : Program} {l : Launch} {e : Env} {s : State} {m : MethodId} {args : Array Value} {below : List Frame} {meth : Method} {c : Code} {A : Nat → Prop} {H0 : Heap} {Q : State → Prop} (C : Cx G RX6 cX6_isAskedOfDay 1 p s m args c) {S : St} {a0 : Int32} {o : Bool} (h : f_X6_isAskedOfDay a0 = some o) (K : KI 37 eX G A H0 cX6_isAskedOfDay p l e 1 s m args below meth c Q (bi o) S) : ∀ (H : Heap) (locs : List Loc) (ls : Array Slot), HX G A H0 S H locs → lv_has ls 1 [(0, .int a0)] → W p l e (rmK 1) s m args below meth c H locs 0 0 Q (F0 m 0 ls []) := by
  obtain ⟨hx, hb, -⟩ := id C
  intro H locs ls hW hl
  unfold f_X6_isAskedOfDay at h
  refine lv_iload_n hx hb dX6_isAskedOfDay_0 rfl (lv_at hl 0 rfl) ?_
  refine lv_iconst (v := 0) hx hb dX6_isAskedOfDay_1 (by decide) ?_
  refine lv_iconst (v := 4) hx hb dX6_isAskedOfDay_2 (by decide) ?_
  obtain ⟨r3, r3h, h⟩ := bd_some h
  refine x_backI hW (x_runS (As := [.int a0, .int ((0 : Int32)), .int ((4 : Int32))]) (rest := []) C hW (c_X6_isIn l G (S := S) r3h H.size) cs_RX6_134 hl.1 rfl rfl ⟨by decide, by decide⟩ (Nat.le_of_ble_eq_true rfl) ⟨Nat.zero_le _, Nat.zero_le _⟩ dX6_isAskedOfDay_3) (fun H locs hW => ?_)
  refine z_if_ne (tgt := 20) hx hb dX6_isAskedOfDay_6 (by decide) (fun b6 => ?_) (fun b6 => ?_)
  · have h := it_t b6 h
    refine lv_iconst (v := 1) hx hb dX6_isAskedOfDay_20 (by decide) ?_
    refine lv_goto (tgt := 25) hx hb dX6_isAskedOfDay_21 (by decide) ?_
    obtain rfl := Option.some.inj h
    exact K _ _ _ _ dX6_isAskedOfDay_25 hW
  · have h := it_f b6 h
    refine lv_iload_n hx hb dX6_isAskedOfDay_9 rfl (lv_at hl 0 rfl) ?_
    refine lv_bipush (v := 10) hx hb dX6_isAskedOfDay_10 (by decide) ?_
    refine lv_bipush (v := 14) hx hb dX6_isAskedOfDay_12 (by decide) ?_
    obtain ⟨r14, r14h, h⟩ := bd_some h
    refine x_backI hW (x_runS (As := [.int a0, .int ((10 : Int32)), .int ((14 : Int32))]) (rest := []) C hW (c_X6_isIn l G (S := S) r14h H.size) cs_RX6_134 hl.1 rfl rfl ⟨by decide, by decide⟩ (Nat.le_of_ble_eq_true rfl) ⟨Nat.zero_le _, Nat.zero_le _⟩ dX6_isAskedOfDay_14) (fun H locs hW => ?_)
    refine z_if_eq (tgt := 24) hx hb dX6_isAskedOfDay_17 (by decide) (fun b17 => ?_) (fun b17 => ?_)
    · have h := it_t b17 h
      refine lv_iconst (v := 0) hx hb dX6_isAskedOfDay_24 (by decide) ?_
      obtain rfl := Option.some.inj h
      exact K _ _ _ _ dX6_isAskedOfDay_25 hW
    · have h := it_f b17 h
      refine lv_iconst (v := 1) hx hb dX6_isAskedOfDay_20 (by decide) ?_
      refine lv_goto (tgt := 25) hx hb dX6_isAskedOfDay_21 (by decide) ?_
      obtain rfl := Option.some.inj h
      exact K _ _ _ _ dX6_isAskedOfDay_25 hW
set_option maxRecDepth 100000 in
theorem c_X6_isAskedOfDay (l : Launch) (G : Geo) {S : St} {a0 : Int32} {o : Bool} (h : f_X6_isAskedOfDay a0 = some o) : MI 37 eX G l yX6_isAskedOfDay cX6_isAskedOfDay 1 (some .boolean) 1 [.int a0] S (bi o) S :=
  mZ_of (by decide +kernel) (Nat.le_of_ble_eq_true rfl) (fun p e s m below meth c A H0 Q C K => w_f_X6_isAskedOfDay C h K)
def f_X6_refusalOfPair (S : St) (a0 : Int32) (a1 : Int32) : Option (Int32) :=
  bd (f_X6_isIn a1 ((0 : Int32)) ((14 : Int32))) fun r4 => if r4 = true then (if a1 < ((10 : Int32)) then (bd (f_X1_hasSwitch S a0) fun r40 => if r40 = false then (some ((-1 : Int32))) else (some ((0 : Int32)))) else (bd (f_X6_isIn a0 ((0 : Int32)) ((4 : Int32))) fun r22 => if r22 = false then (some ((-2 : Int32))) else (some ((0 : Int32))))) else (some ((-2 : Int32)))
set_option maxHeartbeats 4000000 in
set_option maxRecDepth 100000 in
theorem w_f_X6_refusalOfPair {G : Geo} {p : Program} {l : Launch} {e : Env} {s : State} {m : MethodId} {args : Array Value} {below : List Frame} {meth : Method} {c : Code} {A : Nat → Prop} {H0 : Heap} {Q : State → Prop} (C : Cx G RX6 cX6_refusalOfPair 3 p s m args c) {S : St} {a0 : Int32} {a1 : Int32} {o : Int32} (h : f_X6_refusalOfPair S a0 a1 = some o) (K : KI 37 eX G A H0 cX6_refusalOfPair p l e 1 s m args below meth c Q o S) : ∀ (H : Heap) (locs : List Loc) (ls : Array Slot), HX G A H0 S H locs → lv_has ls 3 [(0, .ref (adr G 0)), (1, .int a0), (2, .int a1)] → W p l e (rmK 1) s m args below meth c H locs 0 0 Q (F0 m 0 ls []) := by
  obtain ⟨hx, hb, -⟩ := id C
  intro H locs ls hW hl
  unfold f_X6_refusalOfPair at h
  refine lv_iload_n hx hb dX6_refusalOfPair_0 rfl (lv_at hl 2 rfl) ?_
  refine lv_iconst (v := 0) hx hb dX6_refusalOfPair_1 (by decide) ?_
  refine lv_bipush (v := 14) hx hb dX6_refusalOfPair_2 (by decide) ?_
  obtain ⟨r4, r4h, h⟩ := bd_some h
  refine x_backI hW (x_runS (As := [.int a1, .int ((0 : Int32)), .int ((14 : Int32))]) (rest := []) C hW (c_X6_isIn l G (S := S) r4h H.size) cs_RX6_134 hl.1 rfl rfl ⟨by decide, by decide⟩ (Nat.le_of_ble_eq_true rfl) ⟨Nat.zero_le _, Nat.zero_le _⟩ dX6_refusalOfPair_4) (fun H locs hW => ?_)
  refine z_if_ne (tgt := 13) hx hb dX6_refusalOfPair_7 (by decide) (fun b7 => ?_) (fun b7 => ?_)
  · have h := it_t b7 h
    refine lv_iload_n hx hb dX6_refusalOfPair_13 rfl (lv_at hl 2 rfl) ?_
    refine lv_bipush (v := 10) hx hb dX6_refusalOfPair_14 (by decide) ?_
    refine lv_icmp_lt (tgt := 35) hx hb dX6_refusalOfPair_16 (by decide) (fun b16 => ?_) (fun b16 => ?_)
    · have h := it_t b16 h
      refine lv_aload_n hx hb dX6_refusalOfPair_35 rfl (lv_at hl 0 rfl) ?_
      refine gf_RX6_14 C hW dX6_refusalOfPair_36 ?_
      refine lv_iload_n hx hb dX6_refusalOfPair_39 rfl (lv_at hl 1 rfl) ?_
      obtain ⟨r40, r40h, h⟩ := bd_some h
      refine x_backI hW (x_runV (As := [.int a0]) (rest := []) C hW (c_X1_hasSwitch l G r40h H.size) cv_RX6_113 rv_X1 hl.1 rfl rfl ⟨by decide, by decide⟩ (Nat.le_of_ble_eq_true rfl) ⟨Nat.zero_le _, Nat.zero_le _⟩ dX6_refusalOfPair_40) (fun H locs hW => ?_)
      refine z_if_eq (tgt := 50) hx hb dX6_refusalOfPair_43 (by decide) (fun b43 => ?_) (fun b43 => ?_)
      · have h := it_t b43 h
        refine lv_iconst (v := (-1)) hx hb dX6_refusalOfPair_50 (by decide) ?_
        obtain rfl := Option.some.inj h
        exact K _ _ _ _ dX6_refusalOfPair_51 hW
      · have h := it_f b43 h
        refine lv_iconst (v := 0) hx hb dX6_refusalOfPair_46 (by decide) ?_
        refine lv_goto (tgt := 51) hx hb dX6_refusalOfPair_47 (by decide) ?_
        obtain rfl := Option.some.inj h
        exact K _ _ _ _ dX6_refusalOfPair_51 hW
    · have h := it_f b16 h
      refine lv_iload_n hx hb dX6_refusalOfPair_19 rfl (lv_at hl 1 rfl) ?_
      refine lv_iconst (v := 0) hx hb dX6_refusalOfPair_20 (by decide) ?_
      refine lv_iconst (v := 4) hx hb dX6_refusalOfPair_21 (by decide) ?_
      obtain ⟨r22, r22h, h⟩ := bd_some h
      refine x_backI hW (x_runS (As := [.int a0, .int ((0 : Int32)), .int ((4 : Int32))]) (rest := []) C hW (c_X6_isIn l G (S := S) r22h H.size) cs_RX6_134 hl.1 rfl rfl ⟨by decide, by decide⟩ (Nat.le_of_ble_eq_true rfl) ⟨Nat.zero_le _, Nat.zero_le _⟩ dX6_refusalOfPair_22) (fun H locs hW => ?_)
      refine z_if_eq (tgt := 32) hx hb dX6_refusalOfPair_25 (by decide) (fun b25 => ?_) (fun b25 => ?_)
      · have h := it_t b25 h
        refine lv_bipush (v := (-2)) hx hb dX6_refusalOfPair_32 (by decide) ?_
        obtain rfl := Option.some.inj h
        exact K _ _ _ _ dX6_refusalOfPair_34 hW
      · have h := it_f b25 h
        refine lv_iconst (v := 0) hx hb dX6_refusalOfPair_28 (by decide) ?_
        refine lv_goto (tgt := 34) hx hb dX6_refusalOfPair_29 (by decide) ?_
        obtain rfl := Option.some.inj h
        exact K _ _ _ _ dX6_refusalOfPair_34 hW
  · have h := it_f b7 h
    refine lv_bipush (v := (-2)) hx hb dX6_refusalOfPair_10 (by decide) ?_
    obtain rfl := Option.some.inj h
    exact K _ _ _ _ dX6_refusalOfPair_12 hW
set_option maxRecDepth 100000 in
theorem c_X6_refusalOfPair (l : Launch) (G : Geo) {S : St} {a0 : Int32} {a1 : Int32} {o : Int32} (h : f_X6_refusalOfPair S a0 a1 = some o) : MI 37 eX G l yX6_refusalOfPair cX6_refusalOfPair 3 (some .int) 1 [.ref (adr G 0), .int a0, .int a1] S o S :=
  mI_of (by decide +kernel) (Nat.le_of_ble_eq_true rfl) (fun p e s m below meth c A H0 Q C K => w_f_X6_refusalOfPair C h K)
def i_X6_refusalOfPairs_3 (S : St) (x1 : Nat) (x2 : Int32) (x3 : Int32) (x4 : Int32) : Option ((Int32) ⊕ ((Int32) ⊕ (Int32))) :=
  if x3 ≤ x4 then (some (.inr (.inl x4))) else (bd (f_X4_at S x1 (x2 + (((2 : Int32)) * x4))) fun r17 => bd (f_X4_at S x1 ((x2 + (((2 : Int32)) * x4)) + ((1 : Int32)))) fun r29 => bd (f_X6_refusalOfPair S r17 r29) fun r32 => if r32 = 0 then (some (.inl (x4 + (1 : Int32)))) else (some (.inr (.inr r32))))
set_option maxHeartbeats 4000000 in
set_option maxRecDepth 100000 in
theorem w_i_X6_refusalOfPairs_3 {G : Geo} {p : Program} {l : Launch} {e : Env} {s : State} {m : MethodId} {args : Array Value} {below : List Frame} {meth : Method} {c : Code} {A : Nat → Prop} {H0 : Heap} {Q : State → Prop} (C : Cx G RX6 cX6_refusalOfPairs 6 p s m args c) {S : St} {x1 : Nat} {x2 : Int32} {x3 : Int32} {x4 : Int32} {o : (Int32) ⊕ ((Int32) ⊕ (Int32))} (hx1 : shX x1) (h : i_X6_refusalOfPairs_3 S x1 x2 x3 x4 = some o) (Kn : ∀ q, o = .inl q → ∀ (H : Heap) (locs : List Loc) (ls : Array Slot), HX G A H0 S H locs → lv_has ls 6 [(0, .ref (adr G 0)), (1, .ref (adr G x1)), (2, .int x2), (3, .int x3), (4, .int q)] → W p l e (rmK 2) s m args below meth c H locs 0 0 Q (F0 m 3 ls [])) (Kt : ∀ u, o = .inr u → (∀ q, u = .inl q → ∀ (H : Heap) (locs : List Loc) (ls : Array Slot), HX G A H0 S H locs → lv_has ls 6 [] → W p l e (rmK 2) s m args below meth c H locs 0 0 Q (F0 m 51 ls [])) ∧ (∀ r, u = .inr r → KI 37 eX G A H0 cX6_refusalOfPairs p l e 2 s m args below meth c Q r S)) : ∀ (H : Heap) (locs : List Loc) (ls : Array Slot), HX G A H0 S H locs → lv_has ls 6 [(0, .ref (adr G 0)), (1, .ref (adr G x1)), (2, .int x2), (3, .int x3), (4, .int x4)] → W p l e (rmK 2) s m args below meth c H locs 0 0 Q (F0 m 3 ls []) := by
  obtain ⟨hx, hb, -⟩ := id C
  intro H locs ls hW hl
  unfold i_X6_refusalOfPairs_3 at h
  refine lv_iload hx hb dX6_refusalOfPairs_3 (lv_at hl 4 rfl) ?_
  refine lv_iload_n hx hb dX6_refusalOfPairs_5 rfl (lv_at hl 3 rfl) ?_
  refine lv_icmp_ge (tgt := 51) hx hb dX6_refusalOfPairs_6 (by decide) (fun b6 => ?_) (fun b6 => ?_)
  · have h := it_t b6 h
    obtain rfl := Option.some.inj h
    exact (Kt _ rfl).1 _ rfl _ _ _ hW (lv_sub hl [] rfl)
  · have h := it_f b6 h
    refine lv_aload_n hx hb dX6_refusalOfPairs_9 rfl (lv_at hl 0 rfl) ?_
    refine lv_aload_n hx hb dX6_refusalOfPairs_10 rfl (lv_at hl 1 rfl) ?_
    refine lv_iload_n hx hb dX6_refusalOfPairs_11 rfl (lv_at hl 2 rfl) ?_
    refine lv_iconst (v := 2) hx hb dX6_refusalOfPairs_12 (by decide) ?_
    refine lv_iload hx hb dX6_refusalOfPairs_13 (lv_at hl 4 rfl) ?_
    refine lv_imul hx hb dX6_refusalOfPairs_15 ?_
    refine lv_iadd hx hb dX6_refusalOfPairs_16 ?_
    obtain ⟨r17, r17h, h⟩ := bd_some h
    refine x_backI hW (x_runV (As := [.int (x2 + (((2 : Int32)) * x4))]) (rest := [.ref (adr G 0)]) C hW (c_X4_at l G r17h H.size) cv_RX6_171 (rv_X4 hx1) hl.1 rfl rfl ⟨by decide, by decide⟩ (Nat.le_of_ble_eq_true rfl) ⟨Nat.zero_le _, Nat.zero_le _⟩ dX6_refusalOfPairs_17) (fun H locs hW => ?_)
    refine lv_aload_n hx hb dX6_refusalOfPairs_20 rfl (lv_at hl 1 rfl) ?_
    refine lv_iload_n hx hb dX6_refusalOfPairs_21 rfl (lv_at hl 2 rfl) ?_
    refine lv_iconst (v := 2) hx hb dX6_refusalOfPairs_22 (by decide) ?_
    refine lv_iload hx hb dX6_refusalOfPairs_23 (lv_at hl 4 rfl) ?_
    refine lv_imul hx hb dX6_refusalOfPairs_25 ?_
    refine lv_iadd hx hb dX6_refusalOfPairs_26 ?_
    refine lv_iconst (v := 1) hx hb dX6_refusalOfPairs_27 (by decide) ?_
    refine lv_iadd hx hb dX6_refusalOfPairs_28 ?_
    obtain ⟨r29, r29h, h⟩ := bd_some h
    refine x_backI hW (x_runV (As := [.int ((x2 + (((2 : Int32)) * x4)) + ((1 : Int32)))]) (rest := [.int r17, .ref (adr G 0)]) C hW (c_X4_at l G r29h H.size) cv_RX6_171 (rv_X4 hx1) hl.1 rfl rfl ⟨by decide, by decide⟩ (Nat.le_of_ble_eq_true rfl) ⟨Nat.zero_le _, Nat.zero_le _⟩ dX6_refusalOfPairs_29) (fun H locs hW => ?_)
    obtain ⟨r32, r32h, h⟩ := bd_some h
    refine x_backI hW (x_runV (As := [.int r17, .int r29]) (rest := []) C hW (c_X6_refusalOfPair l G r32h H.size) cv_RX6_174 rv_X6 hl.1 rfl rfl ⟨by decide, by decide⟩ (Nat.le_of_ble_eq_true rfl) ⟨Nat.zero_le _, Nat.zero_le _⟩ dX6_refusalOfPairs_32) (fun H locs hW => ?_)
    refine lv_istore (lv' := [(5, .int r32), (0, .ref (adr G 0)), (1, .ref (adr G x1)), (2, .int x2), (3, .int x3), (4, .int x4)]) hx hb dX6_refusalOfPairs_35 hl (by decide) rfl (fun ls hl => ?_)
    refine lv_iload hx hb dX6_refusalOfPairs_37 (lv_at hl 0 rfl) ?_
    refine lv_if_eq (tgt := 45) hx hb dX6_refusalOfPairs_39 (by decide) (fun b39 => ?_) (fun b39 => ?_)
    · have h := it_t b39 h
      refine lv_iinc (v := (x4 + (1 : Int32))) (lv' := [(4, .int (x4 + (1 : Int32))), (5, .int r32), (0, .ref (adr G 0)), (1, .ref (adr G x1)), (2, .int x2), (3, .int x3)]) hx hb dX6_refusalOfPairs_45 hl (k := 5) rfl rfl (by decide) rfl (fun ls hl => ?_)
      refine lv_goto (tgt := 3) hx hb dX6_refusalOfPairs_48 (by decide) ?_
      obtain rfl := Option.some.inj h
      exact Kn _ rfl _ _ _ hW (lv_sub hl [2, 3, 4, 5, 0] rfl)
    · have h := it_f b39 h
      refine lv_iload hx hb dX6_refusalOfPairs_42 (lv_at hl 0 rfl) ?_
      obtain rfl := Option.some.inj h
      exact (Kt _ rfl).2 _ rfl _ _ _ _ dX6_refusalOfPairs_44 hW
set_option maxHeartbeats 4000000 in
set_option maxRecDepth 100000 in
theorem l_i_X6_refusalOfPairs_3 {G : Geo} {p : Program} {l : Launch} {e : Env} {s : State} {m : MethodId} {args : Array Value} {below : List Frame} {meth : Method} {c : Code} {A : Nat → Prop} {H0 : Heap} {Q : State → Prop} (C : Cx G RX6 cX6_refusalOfPairs 6 p s m args c) {S : St} {x1 : Nat} {x2 : Int32} {x3 : Int32} {n : Nat} {q0 : Int32} {u : (Int32) ⊕ (Int32)} (hx1 : shX x1) (hq : iter (fun q : Int32 => i_X6_refusalOfPairs_3 S x1 x2 x3 q) n q0 = some u) (Kt : (∀ q, u = .inl q → ∀ (H : Heap) (locs : List Loc) (ls : Array Slot), HX G A H0 S H locs → lv_has ls 6 [] → W p l e (rmK 2) s m args below meth c H locs 0 0 Q (F0 m 51 ls [])) ∧ (∀ r, u = .inr r → KI 37 eX G A H0 cX6_refusalOfPairs p l e 2 s m args below meth c Q r S)) : (fun q : Int32 => ∀ (H : Heap) (locs : List Loc) (ls : Array Slot), HX G A H0 S H locs → lv_has ls 6 [(0, .ref (adr G 0)), (1, .ref (adr G x1)), (2, .int x2), (3, .int x3), (4, .int q)] → W p l e (rmK 2) s m args below meth c H locs 0 0 Q (F0 m 3 ls [])) q0 :=
  iter_W (P := fun q : Int32 => ∀ (H : Heap) (locs : List Loc) (ls : Array Slot), HX G A H0 S H locs → lv_has ls 6 [(0, .ref (adr G 0)), (1, .ref (adr G x1)), (2, .int x2), (3, .int x3), (4, .int q)] → W p l e (rmK 2) s m args below meth c H locs 0 0 Q (F0 m 3 ls [])) (K := fun u => (∀ q, u = .inl q → ∀ (H : Heap) (locs : List Loc) (ls : Array Slot), HX G A H0 S H locs → lv_has ls 6 [] → W p l e (rmK 2) s m args below meth c H locs 0 0 Q (F0 m 51 ls [])) ∧ (∀ r, u = .inr r → KI 37 eX G A H0 cX6_refusalOfPairs p l e 2 s m args below meth c Q r S)) (fun q o hit Kn Kt => w_i_X6_refusalOfPairs_3 C hx1 hit Kn Kt) n q0 u hq Kt
def f_X6_refusalOfPairs (S : St) (a0 : Nat) (a1 : Int32) (a2 : Int32) : Option (Int32) :=
  ck (shX a0) <| bd (iter (fun q => i_X6_refusalOfPairs_3 S a0 a1 a2 q) BIG ((0 : Int32))) fun u3 => sm u3 (fun q3 => some ((0 : Int32))) fun w3 => some w3
set_option maxHeartbeats 4000000 in
set_option maxRecDepth 100000 in
theorem w_f_X6_refusalOfPairs {G : Geo} {p : Program} {l : Launch} {e : Env} {s : State} {m : MethodId} {args : Array Value} {below : List Frame} {meth : Method} {c : Code} {A : Nat → Prop} {H0 : Heap} {Q : State → Prop} (C : Cx G RX6 cX6_refusalOfPairs 6 p s m args c) {S : St} {a0 : Nat} {a1 : Int32} {a2 : Int32} {o : Int32} (h : f_X6_refusalOfPairs S a0 a1 a2 = some o) (K : KI 37 eX G A H0 cX6_refusalOfPairs p l e 2 s m args below meth c Q o S) : ∀ (H : Heap) (locs : List Loc) (ls : Array Slot), HX G A H0 S H locs → lv_has ls 6 [(0, .ref (adr G 0)), (1, .ref (adr G a0)), (2, .int a1), (3, .int a2)] → W p l e (rmK 2) s m args below meth c H locs 0 0 Q (F0 m 0 ls []) := by
  obtain ⟨hx, hb, -⟩ := id C
  intro H locs ls hW hl
  unfold f_X6_refusalOfPairs at h
  obtain ⟨ha0, h⟩ := ck_some h
  refine lv_iconst (v := 0) hx hb dX6_refusalOfPairs_0 (by decide) ?_
  refine lv_istore (lv' := [(4, .int ((0 : Int32))), (0, .ref (adr G 0)), (1, .ref (adr G a0)), (2, .int a1), (3, .int a2)]) hx hb dX6_refusalOfPairs_1 hl (by decide) rfl (fun ls hl => ?_)
  obtain ⟨u3, u3h, h⟩ := bd_some h
  refine l_i_X6_refusalOfPairs_3 C ha0 u3h ⟨?_, ?_⟩ _ _ _ hW (lv_sub hl [1, 2, 3, 4, 0] rfl)
  · intro q3 hu; subst hu; have h := sm_l h
    intro H locs ls hW hl
    refine lv_iconst (v := 0) hx hb dX6_refusalOfPairs_51 (by decide) ?_
    obtain rfl := Option.some.inj h
    exact K _ _ _ _ dX6_refusalOfPairs_52 hW
  · intro w3 hu; subst hu; have h := sm_r h
    obtain rfl := Option.some.inj h
    exact K
set_option maxRecDepth 100000 in
theorem c_X6_refusalOfPairs (l : Launch) (G : Geo) {S : St} {a0 : Nat} {a1 : Int32} {a2 : Int32} {o : Int32} (h : f_X6_refusalOfPairs S a0 a1 a2 = some o) : MI 37 eX G l yX6_refusalOfPairs cX6_refusalOfPairs 6 (some .int) 2 [.ref (adr G 0), .ref (adr G a0), .int a1, .int a2] S o S :=
  mI_of (by decide +kernel) (Nat.le_of_ble_eq_true rfl) (fun p e s m below meth c A H0 Q C K => w_f_X6_refusalOfPairs C h K)
def f_X6_ofDay (S : St) (a0 : Int32) : Option (Int32) :=
  if a0 = ((1 : Int32)) then (some (S 5 1)) else (if (S 5 1) = ((-9 : Int32)) then (if a0 = 0 then (bd (f_X1_darkIn S 36) fun r83 => some r83) else if a0 = 1 then (bd (f_X1_hasLamp S (a0 - ((10 : Int32)))) fun r128 => if r128 = false then (some ((-9 : Int32))) else (ck (okx (a0 - ((10 : Int32))) 5) <| some (S 36 (ix (a0 - ((10 : Int32))))))) else if a0 = 2 then (bd (f_X1_shadesIn S 36) fun r98 => some r98) else if a0 = 3 then (some (S 5 2)) else if a0 = 4 then (some (S 5 3)) else (bd (f_X1_hasLamp S (a0 - ((10 : Int32)))) fun r128 => if r128 = false then (some ((-9 : Int32))) else (ck (okx (a0 - ((10 : Int32))) 5) <| some (S 36 (ix (a0 - ((10 : Int32)))))))) else (some (((-100 : Int32)) - (S 5 1))))
set_option maxHeartbeats 4000000 in
set_option maxRecDepth 100000 in
theorem w_f_X6_ofDay {G : Geo} {p : Program} {l : Launch} {e : Env} {s : State} {m : MethodId} {args : Array Value} {below : List Frame} {meth : Method} {c : Code} {A : Nat → Prop} {H0 : Heap} {Q : State → Prop} (C : Cx G RX6 cX6_ofDay 3 p s m args c) {S : St} {a0 : Int32} {o : Int32} (h : f_X6_ofDay S a0 = some o) (K : KI 37 eX G A H0 cX6_ofDay p l e 1 s m args below meth c Q o S) : ∀ (H : Heap) (locs : List Loc) (ls : Array Slot), HX G A H0 S H locs → lv_has ls 3 [(0, .ref (adr G 0)), (1, .int a0)] → W p l e (rmK 1) s m args below meth c H locs 0 0 Q (F0 m 0 ls []) := by
  obtain ⟨hx, hb, -⟩ := id C
  intro H locs ls hW hl
  unfold f_X6_ofDay at h
  refine lv_iload_n hx hb dX6_ofDay_0 rfl (lv_at hl 1 rfl) ?_
  refine lv_iconst (v := 1) hx hb dX6_ofDay_1 (by decide) ?_
  refine lv_icmp_ne (tgt := 13) hx hb dX6_ofDay_2 (by decide) (fun b2 => ?_) (fun b2 => ?_)
  · have h := it_f b2 h
    refine lv_aload_n hx hb dX6_ofDay_13 rfl (lv_at hl 0 rfl) ?_
    refine gf_RX6_42 C hW dX6_ofDay_14 ?_
    refine gf_RX6_178 C hW dX6_ofDay_17 ?_
    refine lv_bipush (v := (-9)) hx hb dX6_ofDay_20 (by decide) ?_
    refine lv_icmp_eq (tgt := 36) hx hb dX6_ofDay_22 (by decide) (fun b22 => ?_) (fun b22 => ?_)
    · have h := it_t b22 h
      refine lv_iload_n hx hb dX6_ofDay_36 rfl (lv_at hl 1 rfl) ?_
      by_cases v37_0 : a0 = 0
      · have h := it_t v37_0 h
        refine lv_tableIn (off := 35) (tgt := 72) hx hb dX6_ofDay_37 (by rw [v37_0]; decide) (by rw [v37_0]; decide) (by rw [v37_0]; rfl) (by decide) ?_
        refine lv_aload_n hx hb dX6_ofDay_72 rfl (lv_at hl 0 rfl) ?_
        refine gf_RX6_14 C hW dX6_ofDay_73 ?_
        refine lv_aload_n hx hb dX6_ofDay_76 rfl (lv_at hl 0 rfl) ?_
        refine gf_RX6_42 C hW dX6_ofDay_77 ?_
        refine gf_RX6_181 C hW dX6_ofDay_80 ?_
        obtain ⟨r83, r83h, h⟩ := bd_some h
        refine x_backI hW (x_runV (As := [.ref (adr G 36)]) (rest := []) C hW (c_X1_darkIn l G r83h H.size) cv_RX6_145 rv_X1 hl.1 rfl rfl ⟨by decide, by decide⟩ (Nat.le_of_ble_eq_true rfl) ⟨Nat.zero_le _, Nat.zero_le _⟩ dX6_ofDay_83) (fun H locs hW => ?_)
        obtain rfl := Option.some.inj h
        exact K _ _ _ _ dX6_ofDay_86 hW
      · have h := it_f v37_0 h
        by_cases v37_1 : a0 = 1
        · have h := it_t v37_1 h
          refine lv_tableIn (off := 81) (tgt := 118) hx hb dX6_ofDay_37 (by rw [v37_1]; decide) (by rw [v37_1]; decide) (by rw [v37_1]; rfl) (by decide) ?_
          refine lv_iload_n hx hb dX6_ofDay_118 rfl (lv_at hl 1 rfl) ?_
          refine lv_bipush (v := 10) hx hb dX6_ofDay_119 (by decide) ?_
          refine lv_isub hx hb dX6_ofDay_121 ?_
          refine lv_istore_n (lv' := [(2, .int (a0 - ((10 : Int32)))), (0, .ref (adr G 0)), (1, .int a0)]) hx hb dX6_ofDay_122 rfl hl (by decide) rfl (fun ls hl => ?_)
          refine lv_aload_n hx hb dX6_ofDay_123 rfl (lv_at hl 1 rfl) ?_
          refine gf_RX6_14 C hW dX6_ofDay_124 ?_
          refine lv_iload_n hx hb dX6_ofDay_127 rfl (lv_at hl 0 rfl) ?_
          obtain ⟨r128, r128h, h⟩ := bd_some h
          refine x_backI hW (x_runV (As := [.int (a0 - ((10 : Int32)))]) (rest := []) C hW (c_X1_hasLamp l G r128h H.size) cv_RX6_101 rv_X1 hl.1 rfl rfl ⟨by decide, by decide⟩ (Nat.le_of_ble_eq_true rfl) ⟨Nat.zero_le _, Nat.zero_le _⟩ dX6_ofDay_128) (fun H locs hW => ?_)
          refine z_if_eq (tgt := 146) hx hb dX6_ofDay_131 (by decide) (fun b131 => ?_) (fun b131 => ?_)
          · have h := it_t b131 h
            refine lv_bipush (v := (-9)) hx hb dX6_ofDay_146 (by decide) ?_
            obtain rfl := Option.some.inj h
            exact K _ _ _ _ dX6_ofDay_148 hW
          · have h := it_f b131 h
            refine lv_aload_n hx hb dX6_ofDay_134 rfl (lv_at hl 1 rfl) ?_
            refine gf_RX6_42 C hW dX6_ofDay_135 ?_
            refine gf_RX6_181 C hW dX6_ofDay_138 ?_
            refine lv_iload_n hx hb dX6_ofDay_141 rfl (lv_at hl 0 rfl) ?_
            obtain ⟨g142, h⟩ := ck_some h
            refine x_iald C hW (k := 36) (n := 5) (by decide) (fun _ => rfl) g142 dX6_ofDay_142 ?_
            refine lv_goto (tgt := 148) hx hb dX6_ofDay_143 (by decide) ?_
            obtain rfl := Option.some.inj h
            exact K _ _ _ _ dX6_ofDay_148 hW
        · have h := it_f v37_1 h
          by_cases v37_2 : a0 = 2
          · have h := it_t v37_2 h
            refine lv_tableIn (off := 50) (tgt := 87) hx hb dX6_ofDay_37 (by rw [v37_2]; decide) (by rw [v37_2]; decide) (by rw [v37_2]; rfl) (by decide) ?_
            refine lv_aload_n hx hb dX6_ofDay_87 rfl (lv_at hl 0 rfl) ?_
            refine gf_RX6_14 C hW dX6_ofDay_88 ?_
            refine lv_aload_n hx hb dX6_ofDay_91 rfl (lv_at hl 0 rfl) ?_
            refine gf_RX6_42 C hW dX6_ofDay_92 ?_
            refine gf_RX6_181 C hW dX6_ofDay_95 ?_
            obtain ⟨r98, r98h, h⟩ := bd_some h
            refine x_backI hW (x_runV (As := [.ref (adr G 36)]) (rest := []) C hW (c_X1_shadesIn l G r98h H.size) cv_RX6_184 rv_X1 hl.1 rfl rfl ⟨by decide, by decide⟩ (Nat.le_of_ble_eq_true rfl) ⟨Nat.zero_le _, Nat.zero_le _⟩ dX6_ofDay_98) (fun H locs hW => ?_)
            obtain rfl := Option.some.inj h
            exact K _ _ _ _ dX6_ofDay_101 hW
          · have h := it_f v37_2 h
            by_cases v37_3 : a0 = 3
            · have h := it_t v37_3 h
              refine lv_tableIn (off := 65) (tgt := 102) hx hb dX6_ofDay_37 (by rw [v37_3]; decide) (by rw [v37_3]; decide) (by rw [v37_3]; rfl) (by decide) ?_
              refine lv_aload_n hx hb dX6_ofDay_102 rfl (lv_at hl 0 rfl) ?_
              refine gf_RX6_42 C hW dX6_ofDay_103 ?_
              refine gf_RX6_187 C hW dX6_ofDay_106 ?_
              obtain rfl := Option.some.inj h
              exact K _ _ _ _ dX6_ofDay_109 hW
            · have h := it_f v37_3 h
              by_cases v37_4 : a0 = 4
              · have h := it_t v37_4 h
                refine lv_tableIn (off := 73) (tgt := 110) hx hb dX6_ofDay_37 (by rw [v37_4]; decide) (by rw [v37_4]; decide) (by rw [v37_4]; rfl) (by decide) ?_
                refine lv_aload_n hx hb dX6_ofDay_110 rfl (lv_at hl 0 rfl) ?_
                refine gf_RX6_42 C hW dX6_ofDay_111 ?_
                refine gf_RX6_190 C hW dX6_ofDay_114 ?_
                obtain rfl := Option.some.inj h
                exact K _ _ _ _ dX6_ofDay_117 hW
              · have h := it_f v37_4 h
                have w37_0 := ne_i 0 0 (by decide) v37_0
                have w37_1 := ne_i 1 1 (by decide) v37_1
                have w37_2 := ne_i 2 2 (by decide) v37_2
                have w37_3 := ne_i 3 3 (by decide) v37_3
                have w37_4 := ne_i 4 4 (by decide) v37_4
                refine lv_tableOut (tgt := 118) hx hb dX6_ofDay_37 (by omega) (by decide) ?_
                refine lv_iload_n hx hb dX6_ofDay_118 rfl (lv_at hl 1 rfl) ?_
                refine lv_bipush (v := 10) hx hb dX6_ofDay_119 (by decide) ?_
                refine lv_isub hx hb dX6_ofDay_121 ?_
                refine lv_istore_n (lv' := [(2, .int (a0 - ((10 : Int32)))), (0, .ref (adr G 0)), (1, .int a0)]) hx hb dX6_ofDay_122 rfl hl (by decide) rfl (fun ls hl => ?_)
                refine lv_aload_n hx hb dX6_ofDay_123 rfl (lv_at hl 1 rfl) ?_
                refine gf_RX6_14 C hW dX6_ofDay_124 ?_
                refine lv_iload_n hx hb dX6_ofDay_127 rfl (lv_at hl 0 rfl) ?_
                obtain ⟨r128, r128h, h⟩ := bd_some h
                refine x_backI hW (x_runV (As := [.int (a0 - ((10 : Int32)))]) (rest := []) C hW (c_X1_hasLamp l G r128h H.size) cv_RX6_101 rv_X1 hl.1 rfl rfl ⟨by decide, by decide⟩ (Nat.le_of_ble_eq_true rfl) ⟨Nat.zero_le _, Nat.zero_le _⟩ dX6_ofDay_128) (fun H locs hW => ?_)
                refine z_if_eq (tgt := 146) hx hb dX6_ofDay_131 (by decide) (fun b131 => ?_) (fun b131 => ?_)
                · have h := it_t b131 h
                  refine lv_bipush (v := (-9)) hx hb dX6_ofDay_146 (by decide) ?_
                  obtain rfl := Option.some.inj h
                  exact K _ _ _ _ dX6_ofDay_148 hW
                · have h := it_f b131 h
                  refine lv_aload_n hx hb dX6_ofDay_134 rfl (lv_at hl 1 rfl) ?_
                  refine gf_RX6_42 C hW dX6_ofDay_135 ?_
                  refine gf_RX6_181 C hW dX6_ofDay_138 ?_
                  refine lv_iload_n hx hb dX6_ofDay_141 rfl (lv_at hl 0 rfl) ?_
                  obtain ⟨g142, h⟩ := ck_some h
                  refine x_iald C hW (k := 36) (n := 5) (by decide) (fun _ => rfl) g142 dX6_ofDay_142 ?_
                  refine lv_goto (tgt := 148) hx hb dX6_ofDay_143 (by decide) ?_
                  obtain rfl := Option.some.inj h
                  exact K _ _ _ _ dX6_ofDay_148 hW
    · have h := it_f b22 h
      refine lv_bipush (v := (-100)) hx hb dX6_ofDay_25 (by decide) ?_
      refine lv_aload_n hx hb dX6_ofDay_27 rfl (lv_at hl 0 rfl) ?_
      refine gf_RX6_42 C hW dX6_ofDay_28 ?_
      refine gf_RX6_178 C hW dX6_ofDay_31 ?_
      refine lv_isub hx hb dX6_ofDay_34 ?_
      obtain rfl := Option.some.inj h
      exact K _ _ _ _ dX6_ofDay_35 hW
  · have h := it_t b2 h
    refine lv_aload_n hx hb dX6_ofDay_5 rfl (lv_at hl 0 rfl) ?_
    refine gf_RX6_42 C hW dX6_ofDay_6 ?_
    refine gf_RX6_178 C hW dX6_ofDay_9 ?_
    obtain rfl := Option.some.inj h
    exact K _ _ _ _ dX6_ofDay_12 hW
set_option maxRecDepth 100000 in
theorem c_X6_ofDay (l : Launch) (G : Geo) {S : St} {a0 : Int32} {o : Int32} (h : f_X6_ofDay S a0 = some o) : MI 37 eX G l yX6_ofDay cX6_ofDay 3 (some .int) 1 [.ref (adr G 0), .int a0] S o S :=
  mI_of (by decide +kernel) (Nat.le_of_ble_eq_true rfl) (fun p e s m below meth c A H0 Q C K => w_f_X6_ofDay C h K)
