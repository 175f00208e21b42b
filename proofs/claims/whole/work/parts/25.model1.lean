def j_X7_refusesPair_38 (S : St) (x1 : Int32) (x3 : Int32) : Option (Int32) :=
  if x3 = 0 then (bd (f_X7_isSwitch S x1) fun r44 => if r44 = true then (some ((0 : Int32))) else (some ((-1 : Int32)))) else (some ((0 : Int32)))
set_option maxHeartbeats 4000000 in
set_option maxRecDepth 100000 in
theorem w_j_X7_refusesPair_38 {G : Geo} {p : Program} {l : Launch} {e : Env} {s : State} {m : MethodId} {args : Array Value} {below : List Frame} {meth : Method} {c : Code} {A : Nat → Prop} {H0 : Heap} {Q : State → Prop} (C : Cx G RX7 cX7_refusesPair 4 p s m args c) {S : St} {x1 : Int32} {x3 : Int32} {o : Int32} (h : j_X7_refusesPair_38 S x1 x3 = some o) (K : KI 18 eM G A H0 cX7_refusesPair p l e 1 s m args below meth c Q o S) : ∀ (H : Heap) (locs : List Loc) (ls : Array Slot), HM G A H0 S H locs → lv_has ls 4 [(0, .ref (adr G 0)), (1, .int x1), (3, .int x3)] → W p l e (rmK 1) s m args below meth c H locs 0 0 Q (F0 m 38 ls []) := by
  obtain ⟨hx, hb, -⟩ := id C
  intro H locs ls hW hl
  unfold j_X7_refusesPair_38 at h
  refine lv_iload_n hx hb dX7_refusesPair_38 rfl (lv_at hl 2 rfl) ?_
  refine lv_if_ne (tgt := 54) hx hb dX7_refusesPair_39 (by decide) (fun b39 => ?_) (fun b39 => ?_)
  · have h := it_f b39 h
    refine lv_iconst (v := 0) hx hb dX7_refusesPair_54 (by decide) ?_
    obtain rfl := Option.some.inj h
    exact K _ _ _ _ dX7_refusesPair_55 hW
  · have h := it_t b39 h
    refine lv_aload_n hx hb dX7_refusesPair_42 rfl (lv_at hl 0 rfl) ?_
    refine lv_iload_n hx hb dX7_refusesPair_43 rfl (lv_at hl 1 rfl) ?_
    obtain ⟨r44, r44h, h⟩ := bd_some h
    refine x_backI hW (x_runV (As := [.int x1]) (rest := []) C hW (c_X7_isSwitch l G r44h H.size) cv_RX7_133 rv_X7 hl.1 rfl rfl ⟨by decide, by decide⟩ (Nat.le_of_ble_eq_true rfl) ⟨Nat.zero_le _, Nat.zero_le _⟩ dX7_refusesPair_44) (fun H locs hW => ?_)
    refine z_if_ne (tgt := 54) hx hb dX7_refusesPair_47 (by decide) (fun b47 => ?_) (fun b47 => ?_)
    · have h := it_t b47 h
      refine lv_iconst (v := 0) hx hb dX7_refusesPair_54 (by decide) ?_
      obtain rfl := Option.some.inj h
      exact K _ _ _ _ dX7_refusesPair_55 hW
    · have h := it_f b47 h
      refine lv_iconst (v := (-1)) hx hb dX7_refusesPair_50 (by decide) ?_
      refine lv_goto (tgt := 55) hx hb dX7_refusesPair_51 (by decide) ?_
      obtain rfl := Option.some.inj h
      exact K _ _ _ _ dX7_refusesPair_55 hW
def j_X7_refusesPair_11 (S : St) (x1 : Int32) (x2 : Int32) (y0 : Int32) : Option (Int32) :=
  bd (f_X7_within x2 ((0 : Int32)) ((14 : Int32))) fun r16 => if r16 = false then (some ((-2 : Int32))) else (if y0 = 0 then (j_X7_refusesPair_38 S x1 y0) else (bd (f_X7_within x1 ((0 : Int32)) ((4 : Int32))) fun r29 => if r29 = true then (j_X7_refusesPair_38 S x1 y0) else (some ((-2 : Int32)))))
set_option maxHeartbeats 4000000 in
set_option maxRecDepth 100000 in
theorem w_j_X7_refusesPair_11 {G : Geo} {p : Program} {l : Launch} {e : Env} {s : State} {m : MethodId} {args : Array Value} {below : List Frame} {meth : Method} {c : Code} {A : Nat → Prop} {H0 : Heap} {Q : State → Prop} (C : Cx G RX7 cX7_refusesPair 4 p s m args c) {S : St} {x1 : Int32} {x2 : Int32} {y0 : Int32} {o : Int32} (h : j_X7_refusesPair_11 S x1 x2 y0 = some o) (K : KI 18 eM G A H0 cX7_refusesPair p l e 1 s m args below meth c Q o S) : ∀ (H : Heap) (locs : List Loc) (ls : Array Slot), HM G A H0 S H locs → lv_has ls 4 [(0, .ref (adr G 0)), (1, .int x1), (2, .int x2)] → W p l e (rmK 1) s m args below meth c H locs 0 0 Q (F0 m 11 ls [.int y0]) := by
  obtain ⟨hx, hb, -⟩ := id C
  intro H locs ls hW hl
  unfold j_X7_refusesPair_11 at h
  refine lv_istore_n (lv' := [(3, .int y0), (0, .ref (adr G 0)), (1, .int x1), (2, .int x2)]) hx hb dX7_refusesPair_11 rfl hl (by decide) rfl (fun ls hl => ?_)
  refine lv_iload_n hx hb dX7_refusesPair_12 rfl (lv_at hl 3 rfl) ?_
  refine lv_iconst (v := 0) hx hb dX7_refusesPair_13 (by decide) ?_
  refine lv_bipush (v := 14) hx hb dX7_refusesPair_14 (by decide) ?_
  obtain ⟨r16, r16h, h⟩ := bd_some h
  refine x_backI hW (x_runS (As := [.int x2, .int ((0 : Int32)), .int ((14 : Int32))]) (rest := []) C hW (c_X7_within l G (S := S) r16h H.size) cs_RX7_67 hl.1 rfl rfl ⟨by decide, by decide⟩ (Nat.le_of_ble_eq_true rfl) ⟨Nat.zero_le _, Nat.zero_le _⟩ dX7_refusesPair_16) (fun H locs hW => ?_)
  refine z_if_eq (tgt := 35) hx hb dX7_refusesPair_19 (by decide) (fun b19 => ?_) (fun b19 => ?_)
  · have h := it_t b19 h
    refine lv_bipush (v := (-2)) hx hb dX7_refusesPair_35 (by decide) ?_
    obtain rfl := Option.some.inj h
    exact K _ _ _ _ dX7_refusesPair_37 hW
  · have h := it_f b19 h
    refine lv_iload_n hx hb dX7_refusesPair_22 rfl (lv_at hl 0 rfl) ?_
    refine lv_if_eq (tgt := 38) hx hb dX7_refusesPair_23 (by decide) (fun b23 => ?_) (fun b23 => ?_)
    · have h := it_t b23 h
      exact w_j_X7_refusesPair_38 C  h K _ _ _ hW (lv_sub hl [1, 2, 0] rfl)
    · have h := it_f b23 h
      refine lv_iload_n hx hb dX7_refusesPair_26 rfl (lv_at hl 2 rfl) ?_
      refine lv_iconst (v := 0) hx hb dX7_refusesPair_27 (by decide) ?_
      refine lv_iconst (v := 4) hx hb dX7_refusesPair_28 (by decide) ?_
      obtain ⟨r29, r29h, h⟩ := bd_some h
      refine x_backI hW (x_runS (As := [.int x1, .int ((0 : Int32)), .int ((4 : Int32))]) (rest := []) C hW (c_X7_within l G (S := S) r29h H.size) cs_RX7_67 hl.1 rfl rfl ⟨by decide, by decide⟩ (Nat.le_of_ble_eq_true rfl) ⟨Nat.zero_le _, Nat.zero_le _⟩ dX7_refusesPair_29) (fun H locs hW => ?_)
      refine z_if_ne (tgt := 38) hx hb dX7_refusesPair_32 (by decide) (fun b32 => ?_) (fun b32 => ?_)
      · have h := it_t b32 h
        exact w_j_X7_refusesPair_38 C  h K _ _ _ hW (lv_sub hl [1, 2, 0] rfl)
      · have h := it_f b32 h
        refine lv_bipush (v := (-2)) hx hb dX7_refusesPair_35 (by decide) ?_
        obtain rfl := Option.some.inj h
        exact K _ _ _ _ dX7_refusesPair_37 hW
def f_X7_refusesPair (S : St) (a0 : Int32) (a1 : Int32) : Option (Int32) :=
  if a1 < ((10 : Int32)) then (j_X7_refusesPair_11 S a0 a1 ((0 : Int32))) else (j_X7_refusesPair_11 S a0 a1 ((1 : Int32)))
set_option maxHeartbeats 4000000 in
set_option maxRecDepth 100000 in
theorem w_f_X7_refusesPair {G : Geo} {p : Program} {l : Launch} {e : Env} {s : State} {m : MethodId} {args : Array Value} {below : List Frame} {meth : Method} {c : Code} {A : Nat → Prop} {H0 : Heap} {Q : State → Prop} (C : Cx G RX7 cX7_refusesPair 4 p s m args c) {S : St} {a0 : Int32} {a1 : Int32} {o : Int32} (h : f_X7_refusesPair S a0 a1 = some o) (K : KI 18 eM G A H0 cX7_refusesPair p l e 1 s m args below meth c Q o S) : ∀ (H : Heap) (locs : List Loc) (ls : Array Slot), HM G A H0 S H locs → lv_has ls 4 [(0, .ref (adr G 0)), (1, .int a0), (2, .int a1)] → W p l e (rmK 1) s m args below meth c H locs 0 0 Q (F0 m 0 ls []) := by
  obtain ⟨hx, hb, -⟩ := id C
  intro H locs ls hW hl
  unfold f_X7_refusesPair at h
  refine lv_iload_n hx hb dX7_refusesPair_0 rfl (lv_at hl 2 rfl) ?_
  refine lv_bipush (v := 10) hx hb dX7_refusesPair_1 (by decide) ?_
  refine lv_icmp_lt (tgt := 10) hx hb dX7_refusesPair_3 (by decide) (fun b3 => ?_) (fun b3 => ?_)
  · have h := it_t b3 h
    refine lv_iconst (v := 0) hx hb dX7_refusesPair_10 (by decide) ?_
    exact w_j_X7_refusesPair_11 C  h K _ _ _ hW (lv_sub hl [0, 1, 2] rfl)
  · have h := it_f b3 h
    refine lv_iconst (v := 1) hx hb dX7_refusesPair_6 (by decide) ?_
    refine lv_goto (tgt := 11) hx hb dX7_refusesPair_7 (by decide) ?_
    exact w_j_X7_refusesPair_11 C  h K _ _ _ hW (lv_sub hl [0, 1, 2] rfl)
set_option maxRecDepth 100000 in
theorem c_X7_refusesPair (l : Launch) (G : Geo) {S : St} {a0 : Int32} {a1 : Int32} {o : Int32} (h : f_X7_refusesPair S a0 a1 = some o) : MI 18 eM G l yX7_refusesPair cX7_refusesPair 4 (some .int) 1 [.ref (adr G 0), .int a0, .int a1] S o S :=
  mI_of (by decide +kernel) (Nat.le_of_ble_eq_true rfl) (fun p e s m below meth c A H0 Q C K => w_f_X7_refusesPair C h K)
def i_X7_keep_2 (S : St) (x1 : Int32) : Option ((St × Int32) ⊕ (St × Int32)) :=
  if (S 0 5) ≤ x1 then (some (.inr (S, x1))) else (ck (okx x1 5) <| ck (okx x1 5) <| some (.inl (up S 12 (ix x1) (S 5 (ix x1)), x1 + (1 : Int32))))
set_option maxHeartbeats 4000000 in
set_option maxRecDepth 100000 in
theorem w_i_X7_keep_2 {G : Geo} {p : Program} {l : Launch} {e : Env} {s : State} {m : MethodId} {args : Array Value} {below : List Frame} {meth : Method} {c : Code} {A : Nat → Prop} {H0 : Heap} {Q : State → Prop} (C : Cx G RX7 cX7_keep 2 p s m args c) {S : St} {x1 : Int32} {o : (St × Int32) ⊕ (St × Int32)} (h : i_X7_keep_2 S x1 = some o) (Kn : ∀ q, o = .inl q → ∀ (H : Heap) (locs : List Loc) (ls : Array Slot), HM G A H0 q.1 H locs → lv_has ls 2 [(0, .ref (adr G 0)), (1, .int (q.2))] → W p l e (rmK 0) s m args below meth c H locs 0 0 Q (F0 m 2 ls [])) (Kt : ∀ q, o = .inr q → ∀ (H : Heap) (locs : List Loc) (ls : Array Slot), HM G A H0 q.1 H locs → lv_has ls 2 [] → W p l e (rmK 0) s m args below meth c H locs 0 0 Q (F0 m 28 ls [])) : ∀ (H : Heap) (locs : List Loc) (ls : Array Slot), HM G A H0 S H locs → lv_has ls 2 [(0, .ref (adr G 0)), (1, .int x1)] → W p l e (rmK 0) s m args below meth c H locs 0 0 Q (F0 m 2 ls []) := by
  obtain ⟨hx, hb, -⟩ := id C
  intro H locs ls hW hl
  unfold i_X7_keep_2 at h
  refine lv_iload_n hx hb dX7_keep_2 rfl (lv_at hl 1 rfl) ?_
  refine lv_aload_n hx hb dX7_keep_3 rfl (lv_at hl 0 rfl) ?_
  refine gf_RX7_71 C hW dX7_keep_4 ?_
  refine lv_icmp_ge (tgt := 28) hx hb dX7_keep_7 (by decide) (fun b7 => ?_) (fun b7 => ?_)
  · have h := it_t b7 h
    obtain rfl := Option.some.inj h
    exact Kt _ rfl _ _ _ hW (lv_sub hl [] rfl)
  · have h := it_f b7 h
    refine lv_aload_n hx hb dX7_keep_10 rfl (lv_at hl 0 rfl) ?_
    refine gf_RX7_43 C hW dX7_keep_11 ?_
    refine lv_iload_n hx hb dX7_keep_14 rfl (lv_at hl 1 rfl) ?_
    refine lv_aload_n hx hb dX7_keep_15 rfl (lv_at hl 0 rfl) ?_
    refine gf_RX7_22 C hW dX7_keep_16 ?_
    refine lv_iload_n hx hb dX7_keep_19 rfl (lv_at hl 1 rfl) ?_
    obtain ⟨g20, h⟩ := ck_some h
    refine x_iald C hW (k := 5) (n := 5) (by decide) (fun _ => rfl) g20 dX7_keep_20 ?_
    obtain ⟨g21, h⟩ := ck_some h
    refine x_iast C hW (k := 12) (n := 5) (by decide) (fun _ => rfl) g21 dX7_keep_21 (fun H locs hW => ?_)
    refine lv_iinc (v := (x1 + (1 : Int32))) (lv' := [(1, .int (x1 + (1 : Int32))), (0, .ref (adr G 0))]) hx hb dX7_keep_22 hl (k := 1) rfl rfl (by decide) rfl (fun ls hl => ?_)
    refine lv_goto (tgt := 2) hx hb dX7_keep_25 (by decide) ?_
    obtain rfl := Option.some.inj h
    exact Kn _ rfl _ _ _ hW (lv_sub hl [1, 0] rfl)
set_option maxHeartbeats 4000000 in
set_option maxRecDepth 100000 in
theorem l_i_X7_keep_2 {G : Geo} {p : Program} {l : Launch} {e : Env} {s : State} {m : MethodId} {args : Array Value} {below : List Frame} {meth : Method} {c : Code} {A : Nat → Prop} {H0 : Heap} {Q : State → Prop} (C : Cx G RX7 cX7_keep 2 p s m args c)  {n : Nat} {q0 : St × Int32} {u : St × Int32} (hq : iter (fun q : St × Int32 => i_X7_keep_2 q.1 q.2) n q0 = some u) (Kt : (fun q : St × Int32 => ∀ (H : Heap) (locs : List Loc) (ls : Array Slot), HM G A H0 q.1 H locs → lv_has ls 2 [] → W p l e (rmK 0) s m args below meth c H locs 0 0 Q (F0 m 28 ls [])) u) : (fun q : St × Int32 => ∀ (H : Heap) (locs : List Loc) (ls : Array Slot), HM G A H0 q.1 H locs → lv_has ls 2 [(0, .ref (adr G 0)), (1, .int (q.2))] → W p l e (rmK 0) s m args below meth c H locs 0 0 Q (F0 m 2 ls [])) q0 :=
  iter_W (P := fun q : St × Int32 => ∀ (H : Heap) (locs : List Loc) (ls : Array Slot), HM G A H0 q.1 H locs → lv_has ls 2 [(0, .ref (adr G 0)), (1, .int (q.2))] → W p l e (rmK 0) s m args below meth c H locs 0 0 Q (F0 m 2 ls [])) (K := fun q : St × Int32 => ∀ (H : Heap) (locs : List Loc) (ls : Array Slot), HM G A H0 q.1 H locs → lv_has ls 2 [] → W p l e (rmK 0) s m args below meth c H locs 0 0 Q (F0 m 28 ls [])) (fun q o hit Kn Kt => w_i_X7_keep_2 C  hit Kn Kt) n q0 u hq Kt
def f_X7_keep (S : St) : Option (St) :=
  bd (iter (fun q => i_X7_keep_2 q.1 q.2) BIG (S, (0 : Int32))) fun q2 => some q2.1
set_option maxHeartbeats 4000000 in
set_option maxRecDepth 100000 in
theorem w_f_X7_keep {G : Geo} {p : Program} {l : Launch} {e : Env} {s : State} {m : MethodId} {args : Array Value} {below : List Frame} {meth : Method} {c : Code} {A : Nat → Prop} {H0 : Heap} {Q : State → Prop} (C : Cx G RX7 cX7_keep 2 p s m args c) {S : St}  {o : St} (h : f_X7_keep S = some o) (K : KV 18 eM G A H0 cX7_keep p l e 0 s m args below meth c Q o) : ∀ (H : Heap) (locs : List Loc) (ls : Array Slot), HM G A H0 S H locs → lv_has ls 2 [(0, .ref (adr G 0))] → W p l e (rmK 0) s m args below meth c H locs 0 0 Q (F0 m 0 ls []) := by
  obtain ⟨hx, hb, -⟩ := id C
  intro H locs ls hW hl
  unfold f_X7_keep at h
  refine lv_iconst (v := 0) hx hb dX7_keep_0 (by decide) ?_
  refine lv_istore_n (lv' := [(1, .int ((0 : Int32))), (0, .ref (adr G 0))]) hx hb dX7_keep_1 rfl hl (by decide) rfl (fun ls hl => ?_)
  obtain ⟨q2, q2h, h⟩ := bd_some h
  refine l_i_X7_keep_2 C  q2h ?_ _ _ _ hW (lv_sub hl [1, 0] rfl)
  intro H locs ls hW hl
  obtain rfl := Option.some.inj h
  exact K _ _ _ _ dX7_keep_28 hW
set_option maxRecDepth 100000 in
theorem c_X7_keep (l : Launch) (G : Geo) {S : St}  {o : St} (h : f_X7_keep S = some o) : MV 18 eM G l yX7_keep cX7_keep 2 none 0 [.ref (adr G 0)] S o :=
  mV_of (by decide +kernel) (Nat.le_of_ble_eq_true rfl) (fun p e s m below meth c A H0 Q C K => w_f_X7_keep C h K)
def i_X7_turnsAll_2 (S : St) (x1 : Int32) (x2 : Int32) (x3 : Int32) : Option ((St × Int32) ⊕ (St × Int32)) :=
  if (S 0 5) ≤ x3 then (some (.inr (S, x3))) else (ck (okx x1 5) <| bd (f_X7_isOf (S 8 (ix x1)) x3) fun r17 => if r17 = false then (some (.inl (S, x3 + (1 : Int32)))) else (ck (okx x3 5) <| bd (f_X7_movesOf S x1) fun r37 => ck (okx x3 5) <| ck (¬ (S 4 (ix x3)) = 0) <| ck (okx x3 5) <| some (.inl (up S 5 (ix x3) (rem32 ((S 5 (ix x3)) + (x2 * r37)) (S 4 (ix x3))), x3 + (1 : Int32)))))
set_option maxHeartbeats 4000000 in
set_option maxRecDepth 100000 in
theorem w_i_X7_turnsAll_2 {G : Geo} {p : Program} {l : Launch} {e : Env} {s : State} {m : MethodId} {args : Array Value} {below : List Frame} {meth : Method} {c : Code} {A : Nat → Prop} {H0 : Heap} {Q : State → Prop} (C : Cx G RX7 cX7_turnsAll 4 p s m args c) {S : St} {x1 : Int32} {x2 : Int32} {x3 : Int32} {o : (St × Int32) ⊕ (St × Int32)} (h : i_X7_turnsAll_2 S x1 x2 x3 = some o) (Kn : ∀ q, o = .inl q → ∀ (H : Heap) (locs : List Loc) (ls : Array Slot), HM G A H0 q.1 H locs → lv_has ls 4 [(0, .ref (adr G 0)), (1, .int x1), (2, .int x2), (3, .int (q.2))] → W p l e (rmK 1) s m args below meth c H locs 0 0 Q (F0 m 2 ls [])) (Kt : ∀ q, o = .inr q → ∀ (H : Heap) (locs : List Loc) (ls : Array Slot), HM G A H0 q.1 H locs → lv_has ls 4 [] → W p l e (rmK 1) s m args below meth c H locs 0 0 Q (F0 m 56 ls [])) : ∀ (H : Heap) (locs : List Loc) (ls : Array Slot), HM G A H0 S H locs → lv_has ls 4 [(0, .ref (adr G 0)), (1, .int x1), (2, .int x2), (3, .int x3)] → W p l e (rmK 1) s m args below meth c H locs 0 0 Q (F0 m 2 ls []) := by
  obtain ⟨hx, hb, -⟩ := id C
  intro H locs ls hW hl
  unfold i_X7_turnsAll_2 at h
  refine lv_iload_n hx hb dX7_turnsAll_2 rfl (lv_at hl 3 rfl) ?_
  refine lv_aload_n hx hb dX7_turnsAll_3 rfl (lv_at hl 0 rfl) ?_
  refine gf_RX7_71 C hW dX7_turnsAll_4 ?_
  refine lv_icmp_ge (tgt := 56) hx hb dX7_turnsAll_7 (by decide) (fun b7 => ?_) (fun b7 => ?_)
  · have h := it_t b7 h
    obtain rfl := Option.some.inj h
    exact Kt _ rfl _ _ _ hW (lv_sub hl [] rfl)
  · have h := it_f b7 h
    refine lv_aload_n hx hb dX7_turnsAll_10 rfl (lv_at hl 0 rfl) ?_
    refine gf_RX7_31 C hW dX7_turnsAll_11 ?_
    refine lv_iload_n hx hb dX7_turnsAll_14 rfl (lv_at hl 1 rfl) ?_
    obtain ⟨g15, h⟩ := ck_some h
    refine x_iald C hW (k := 8) (n := 5) (by decide) (fun _ => rfl) g15 dX7_turnsAll_15 ?_
    refine lv_iload_n hx hb dX7_turnsAll_16 rfl (lv_at hl 3 rfl) ?_
    obtain ⟨r17, r17h, h⟩ := bd_some h
    refine x_backI hW (x_runS (As := [.int (S 8 (ix x1)), .int x3]) (rest := []) C hW (c_X7_isOf l G (S := S) r17h H.size) cs_RX7_124 hl.1 rfl rfl ⟨by decide, by decide⟩ (Nat.le_of_ble_eq_true rfl) ⟨Nat.zero_le _, Nat.zero_le _⟩ dX7_turnsAll_17) (fun H locs hW => ?_)
    refine z_if_eq (tgt := 50) hx hb dX7_turnsAll_20 (by decide) (fun b20 => ?_) (fun b20 => ?_)
    · have h := it_t b20 h
      refine lv_iinc (v := (x3 + (1 : Int32))) (lv' := [(3, .int (x3 + (1 : Int32))), (0, .ref (adr G 0)), (1, .int x1), (2, .int x2)]) hx hb dX7_turnsAll_50 hl (k := 3) rfl rfl (by decide) rfl (fun ls hl => ?_)
      refine lv_goto (tgt := 2) hx hb dX7_turnsAll_53 (by decide) ?_
      obtain rfl := Option.some.inj h
      exact Kn _ rfl _ _ _ hW (lv_sub hl [1, 2, 3, 0] rfl)
    · have h := it_f b20 h
      refine lv_aload_n hx hb dX7_turnsAll_23 rfl (lv_at hl 0 rfl) ?_
      refine gf_RX7_22 C hW dX7_turnsAll_24 ?_
      refine lv_iload_n hx hb dX7_turnsAll_27 rfl (lv_at hl 3 rfl) ?_
      refine lv_aload_n hx hb dX7_turnsAll_28 rfl (lv_at hl 0 rfl) ?_
      refine gf_RX7_22 C hW dX7_turnsAll_29 ?_
      refine lv_iload_n hx hb dX7_turnsAll_32 rfl (lv_at hl 3 rfl) ?_
      obtain ⟨g33, h⟩ := ck_some h
      refine x_iald C hW (k := 5) (n := 5) (by decide) (fun _ => rfl) g33 dX7_turnsAll_33 ?_
      refine lv_iload_n hx hb dX7_turnsAll_34 rfl (lv_at hl 2 rfl) ?_
      refine lv_aload_n hx hb dX7_turnsAll_35 rfl (lv_at hl 0 rfl) ?_
      refine lv_iload_n hx hb dX7_turnsAll_36 rfl (lv_at hl 1 rfl) ?_
      obtain ⟨r37, r37h, h⟩ := bd_some h
      refine x_backI hW (x_runV (As := [.int x1]) (rest := [.int x2, .int (S 5 (ix x3)), .int x3, .ref (adr G 5)]) C hW (c_X7_movesOf l G r37h H.size) cv_RX7_136 rv_X7 hl.1 rfl rfl ⟨by decide, by decide⟩ (Nat.le_of_ble_eq_true rfl) ⟨Nat.zero_le _, Nat.zero_le _⟩ dX7_turnsAll_37) (fun H locs hW => ?_)
      refine lv_imul hx hb dX7_turnsAll_40 ?_
      refine lv_iadd hx hb dX7_turnsAll_41 ?_
      refine lv_aload_n hx hb dX7_turnsAll_42 rfl (lv_at hl 0 rfl) ?_
      refine gf_RX7_19 C hW dX7_turnsAll_43 ?_
      refine lv_iload_n hx hb dX7_turnsAll_46 rfl (lv_at hl 3 rfl) ?_
      obtain ⟨g47, h⟩ := ck_some h
      refine x_iald C hW (k := 4) (n := 5) (by decide) (fun _ => rfl) g47 dX7_turnsAll_47 ?_
      obtain ⟨g48, h⟩ := ck_some h
      refine lv_irem hx hb dX7_turnsAll_48 g48 ?_
      obtain ⟨g49, h⟩ := ck_some h
      refine x_iast C hW (k := 5) (n := 5) (by decide) (fun _ => rfl) g49 dX7_turnsAll_49 (fun H locs hW => ?_)
      refine lv_iinc (v := (x3 + (1 : Int32))) (lv' := [(3, .int (x3 + (1 : Int32))), (0, .ref (adr G 0)), (1, .int x1), (2, .int x2)]) hx hb dX7_turnsAll_50 hl (k := 3) rfl rfl (by decide) rfl (fun ls hl => ?_)
      refine lv_goto (tgt := 2) hx hb dX7_turnsAll_53 (by decide) ?_
      obtain rfl := Option.some.inj h
      exact Kn _ rfl _ _ _ hW (lv_sub hl [1, 2, 3, 0] rfl)
set_option maxHeartbeats 4000000 in
set_option maxRecDepth 100000 in
theorem l_i_X7_turnsAll_2 {G : Geo} {p : Program} {l : Launch} {e : Env} {s : State} {m : MethodId} {args : Array Value} {below : List Frame} {meth : Method} {c : Code} {A : Nat → Prop} {H0 : Heap} {Q : State → Prop} (C : Cx G RX7 cX7_turnsAll 4 p s m args c) {x1 : Int32} {x2 : Int32} {n : Nat} {q0 : St × Int32} {u : St × Int32} (hq : iter (fun q : St × Int32 => i_X7_turnsAll_2 q.1 x1 x2 q.2) n q0 = some u) (Kt : (fun q : St × Int32 => ∀ (H : Heap) (locs : List Loc) (ls : Array Slot), HM G A H0 q.1 H locs → lv_has ls 4 [] → W p l e (rmK 1) s m args below meth c H locs 0 0 Q (F0 m 56 ls [])) u) : (fun q : St × Int32 => ∀ (H : Heap) (locs : List Loc) (ls : Array Slot), HM G A H0 q.1 H locs → lv_has ls 4 [(0, .ref (adr G 0)), (1, .int x1), (2, .int x2), (3, .int (q.2))] → W p l e (rmK 1) s m args below meth c H locs 0 0 Q (F0 m 2 ls [])) q0 :=
  iter_W (P := fun q : St × Int32 => ∀ (H : Heap) (locs : List Loc) (ls : Array Slot), HM G A H0 q.1 H locs → lv_has ls 4 [(0, .ref (adr G 0)), (1, .int x1), (2, .int x2), (3, .int (q.2))] → W p l e (rmK 1) s m args below meth c H locs 0 0 Q (F0 m 2 ls [])) (K := fun q : St × Int32 => ∀ (H : Heap) (locs : List Loc) (ls : Array Slot), HM G A H0 q.1 H locs → lv_has ls 4 [] → W p l e (rmK 1) s m args below meth c H locs 0 0 Q (F0 m 56 ls [])) (fun q o hit Kn Kt => w_i_X7_turnsAll_2 C  hit Kn Kt) n q0 u hq Kt
def f_X7_turnsAll (S : St) (a0 : Int32) (a1 : Int32) : Option (St) :=
  bd (iter (fun q => i_X7_turnsAll_2 q.1 a0 a1 q.2) BIG (S, (0 : Int32))) fun q2 => some q2.1
set_option maxHeartbeats 4000000 in
set_option maxRecDepth 100000 in
theorem w_f_X7_turnsAll {G : Geo} {p : Program} {l : Launch} {e : Env} {s : State} {m : MethodId} {args : Array Value} {below : List Frame} {meth : Method} {c : Code} {A : Nat → Prop} {H0 : Heap} {Q : State → Prop} (C : Cx G RX7 cX7_turnsAll 4 p s m args c) {S : St} {a0 : Int32} {a1 : Int32} {o : St} (h : f_X7_turnsAll S a0 a1 = some o) (K : KV 18 eM G A H0 cX7_turnsAll p l e 1 s m args below meth c Q o) : ∀ (H : Heap) (locs : List Loc) (ls : Array Slot), HM G A H0 S H locs → lv_has ls 4 [(0, .ref (adr G 0)), (1, .int a0), (2, .int a1)] → W p l e (rmK 1) s m args below meth c H locs 0 0 Q (F0 m 0 ls []) := by
  obtain ⟨hx, hb, -⟩ := id C
  intro H locs ls hW hl
  unfold f_X7_turnsAll at h
  refine lv_iconst (v := 0) hx hb dX7_turnsAll_0 (by decide) ?_
  refine lv_istore_n (lv' := [(3, .int ((0 : Int32))), (0, .ref (adr G 0)), (1, .int a0), (2, .int a1)]) hx hb dX7_turnsAll_1 rfl hl (by decide) rfl (fun ls hl => ?_)
  obtain ⟨q2, q2h, h⟩ := bd_some h
  refine l_i_X7_turnsAll_2 C  q2h ?_ _ _ _ hW (lv_sub hl [1, 2, 3, 0] rfl)
  intro H locs ls hW hl
  obtain rfl := Option.some.inj h
  exact K _ _ _ _ dX7_turnsAll_56 hW
set_option maxRecDepth 100000 in
theorem c_X7_turnsAll (l : Launch) (G : Geo) {S : St} {a0 : Int32} {a1 : Int32} {o : St} (h : f_X7_turnsAll S a0 a1 = some o) : MV 18 eM G l yX7_turnsAll cX7_turnsAll 4 none 1 [.ref (adr G 0), .int a0, .int a1] S o :=
  mV_of (by decide +kernel) (Nat.le_of_ble_eq_true rfl) (fun p e s m below meth c A H0 Q C K => w_f_X7_turnsAll C h K)
def j_X7_does_57 (S : St) : Option (Bool × St) :=
  bd (f_X7_darkNow S) fun r63 => if r63 = (S 0 5) then (some (true, up S 0 21 ((S 0 21) + ((1 : Int32))))) else (some (true, up S 0 21 ((S 0 21) + ((0 : Int32)))))
set_option maxHeartbeats 4000000 in
set_option maxRecDepth 100000 in
theorem w_j_X7_does_57 {G : Geo} {p : Program} {l : Launch} {e : Env} {s : State} {m : MethodId} {args : Array Value} {below : List Frame} {meth : Method} {c : Code} {A : Nat → Prop} {H0 : Heap} {Q : State → Prop} (C : Cx G RX7 cX7_does 4 p s m args c) {S : St}  {o : Bool × St} (h : j_X7_does_57 S = some o) (K : KI 18 eM G A H0 cX7_does p l e 2 s m args below meth c Q (bi ((o).1)) ((o).2)) : ∀ (H : Heap) (locs : List Loc) (ls : Array Slot), HM G A H0 S H locs → lv_has ls 4 [(0, .ref (adr G 0))] → W p l e (rmK 2) s m args below meth c H locs 0 0 Q (F0 m 57 ls []) := by
  obtain ⟨hx, hb, -⟩ := id C
  intro H locs ls hW hl
  unfold j_X7_does_57 at h
  refine lv_aload_n hx hb dX7_does_57 rfl (lv_at hl 0 rfl) ?_
  refine lv_dup hx hb dX7_does_58 rfl ?_
  refine gf_RX7_150 C hW dX7_does_59 ?_
  refine lv_aload_n hx hb dX7_does_62 rfl (lv_at hl 0 rfl) ?_
  obtain ⟨r63, r63h, h⟩ := bd_some h
  refine x_backI hW (x_runV (As := []) (rest := [.int (S 0 21), .ref (adr G 0)]) C hW (c_X7_darkNow l G r63h H.size) cv_RX7_143 rv_X7 hl.1 rfl rfl ⟨by decide, by decide⟩ (Nat.le_of_ble_eq_true rfl) ⟨Nat.zero_le _, Nat.zero_le _⟩ dX7_does_63) (fun H locs hW => ?_)
  refine lv_aload_n hx hb dX7_does_66 rfl (lv_at hl 0 rfl) ?_
  refine gf_RX7_71 C hW dX7_does_67 ?_
  refine lv_icmp_ne (tgt := 77) hx hb dX7_does_70 (by decide) (fun b70 => ?_) (fun b70 => ?_)
  · have h := it_f b70 h
    refine lv_iconst (v := 0) hx hb dX7_does_77 (by decide) ?_
    refine lv_iadd hx hb dX7_does_78 ?_
    refine pf_RX7_150 C hW dX7_does_79 (fun H locs hW => ?_)
    refine lv_iconst (v := 1) hx hb dX7_does_82 (by decide) ?_
    obtain rfl := Option.some.inj h
    exact K _ _ _ _ dX7_does_83 hW
  · have h := it_t b70 h
    refine lv_iconst (v := 1) hx hb dX7_does_73 (by decide) ?_
    refine lv_goto (tgt := 78) hx hb dX7_does_74 (by decide) ?_
    refine lv_iadd hx hb dX7_does_78 ?_
    refine pf_RX7_150 C hW dX7_does_79 (fun H locs hW => ?_)
    refine lv_iconst (v := 1) hx hb dX7_does_82 (by decide) ?_
    obtain rfl := Option.some.inj h
    exact K _ _ _ _ dX7_does_83 hW
def f_X7_does (S : St) (a0 : Int32) (a1 : Int32) : Option (Bool × St) :=
  if ((10 : Int32)) ≤ a1 then (bd (f_X7_isLamp S (a1 - ((10 : Int32)))) fun r32 => if r32 = false then (some (false, S)) else (ck (okx (a1 - ((10 : Int32))) 5) <| if a0 < (S 4 (ix (a1 - ((10 : Int32))))) then (ck (okx (a1 - ((10 : Int32))) 5) <| j_X7_does_57 (up S 5 (ix (a1 - ((10 : Int32)))) a0)) else (some (false, S)))) else (bd (f_X7_turnsAll S a0 a1) fun r9 => j_X7_does_57 (up r9 0 20 ((r9 0 20) + a1)))
set_option maxHeartbeats 4000000 in
set_option maxRecDepth 100000 in
theorem w_f_X7_does {G : Geo} {p : Program} {l : Launch} {e : Env} {s : State} {m : MethodId} {args : Array Value} {below : List Frame} {meth : Method} {c : Code} {A : Nat → Prop} {H0 : Heap} {Q : State → Prop} (C : Cx G RX7 cX7_does 4 p s m args c) {S : St} {a0 : Int32} {a1 : Int32} {o : Bool × St} (h : f_X7_does S a0 a1 = some o) (K : KI 18 eM G A H0 cX7_does p l e 2 s m args below meth c Q (bi ((o).1)) ((o).2)) : ∀ (H : Heap) (locs : List Loc) (ls : Array Slot), HM G A H0 S H locs → lv_has ls 4 [(0, .ref (adr G 0)), (1, .int a0), (2, .int a1)] → W p l e (rmK 2) s m args below meth c H locs 0 0 Q (F0 m 0 ls []) := by
  obtain ⟨hx, hb, -⟩ := id C
  intro H locs ls hW hl
  unfold f_X7_does at h
  refine lv_iload_n hx hb dX7_does_0 rfl (lv_at hl 2 rfl) ?_
  refine lv_bipush (v := 10) hx hb dX7_does_1 (by decide) ?_
  refine lv_icmp_ge (tgt := 25) hx hb dX7_does_3 (by decide) (fun b3 => ?_) (fun b3 => ?_)
  · have h := it_t b3 h
    refine lv_iload_n hx hb dX7_does_25 rfl (lv_at hl 2 rfl) ?_
    refine lv_bipush (v := 10) hx hb dX7_does_26 (by decide) ?_
    refine lv_isub hx hb dX7_does_28 ?_
    refine lv_istore_n (lv' := [(3, .int (a1 - ((10 : Int32)))), (0, .ref (adr G 0)), (1, .int a0), (2, .int a1)]) hx hb dX7_does_29 rfl hl (by decide) rfl (fun ls hl => ?_)
    refine lv_aload_n hx hb dX7_does_30 rfl (lv_at hl 1 rfl) ?_
    refine lv_iload_n hx hb dX7_does_31 rfl (lv_at hl 0 rfl) ?_
    obtain ⟨r32, r32h, h⟩ := bd_some h
    refine x_backI hW (x_runV (As := [.int (a1 - ((10 : Int32)))]) (rest := []) C hW (c_X7_isLamp l G r32h H.size) cv_RX7_127 rv_X7 hl.1 rfl rfl ⟨by decide, by decide⟩ (Nat.le_of_ble_eq_true rfl) ⟨Nat.zero_le _, Nat.zero_le _⟩ dX7_does_32) (fun H locs hW => ?_)
    refine z_if_eq (tgt := 48) hx hb dX7_does_35 (by decide) (fun b35 => ?_) (fun b35 => ?_)
    · have h := it_t b35 h
      refine lv_iconst (v := 0) hx hb dX7_does_48 (by decide) ?_
      obtain rfl := Option.some.inj h
      exact K _ _ _ _ dX7_does_49 hW
    · have h := it_f b35 h
      refine lv_iload_n hx hb dX7_does_38 rfl (lv_at hl 2 rfl) ?_
      refine lv_aload_n hx hb dX7_does_39 rfl (lv_at hl 1 rfl) ?_
      refine gf_RX7_19 C hW dX7_does_40 ?_
      refine lv_iload_n hx hb dX7_does_43 rfl (lv_at hl 0 rfl) ?_
      obtain ⟨g44, h⟩ := ck_some h
      refine x_iald C hW (k := 4) (n := 5) (by decide) (fun _ => rfl) g44 dX7_does_44 ?_
      refine lv_icmp_lt (tgt := 50) hx hb dX7_does_45 (by decide) (fun b45 => ?_) (fun b45 => ?_)
      · have h := it_t b45 h
        refine lv_aload_n hx hb dX7_does_50 rfl (lv_at hl 1 rfl) ?_
        refine gf_RX7_22 C hW dX7_does_51 ?_
        refine lv_iload_n hx hb dX7_does_54 rfl (lv_at hl 0 rfl) ?_
        refine lv_iload_n hx hb dX7_does_55 rfl (lv_at hl 2 rfl) ?_
        obtain ⟨g56, h⟩ := ck_some h
        refine x_iast C hW (k := 5) (n := 5) (by decide) (fun _ => rfl) g56 dX7_does_56 (fun H locs hW => ?_)
        exact w_j_X7_does_57 C  h K _ _ _ hW (lv_sub hl [1] rfl)
      · have h := it_f b45 h
        refine lv_iconst (v := 0) hx hb dX7_does_48 (by decide) ?_
        obtain rfl := Option.some.inj h
        exact K _ _ _ _ dX7_does_49 hW
  · have h := it_f b3 h
    refine lv_aload_n hx hb dX7_does_6 rfl (lv_at hl 0 rfl) ?_
    refine lv_iload_n hx hb dX7_does_7 rfl (lv_at hl 1 rfl) ?_
    refine lv_iload_n hx hb dX7_does_8 rfl (lv_at hl 2 rfl) ?_
    obtain ⟨r9, r9h, h⟩ := bd_some h
    refine x_backV hW (x_runV (As := [.int a0, .int a1]) (rest := []) C hW (c_X7_turnsAll l G r9h H.size) cv_RX7_139 rv_X7 hl.1 rfl rfl ⟨by decide, by decide⟩ (Nat.le_of_ble_eq_true rfl) ⟨Nat.zero_le _, Nat.zero_le _⟩ dX7_does_9) (fun H locs hW => ?_)
    refine lv_aload_n hx hb dX7_does_12 rfl (lv_at hl 0 rfl) ?_
    refine lv_dup hx hb dX7_does_13 rfl ?_
    refine gf_RX7_147 C hW dX7_does_14 ?_
    refine lv_iload_n hx hb dX7_does_17 rfl (lv_at hl 2 rfl) ?_
    refine lv_iadd hx hb dX7_does_18 ?_
    refine pf_RX7_147 C hW dX7_does_19 (fun H locs hW => ?_)
    refine lv_goto (tgt := 57) hx hb dX7_does_22 (by decide) ?_
    exact w_j_X7_does_57 C  h K _ _ _ hW (lv_sub hl [0] rfl)
set_option maxRecDepth 100000 in
theorem c_X7_does (l : Launch) (G : Geo) {S : St} {a0 : Int32} {a1 : Int32} {o : Bool × St} (h : f_X7_does S a0 a1 = some o) : MI 18 eM G l yX7_does cX7_does 4 (some .boolean) 2 [.ref (adr G 0), .int a0, .int a1] S (bi o.1) o.2 :=
  mZ_of (by decide +kernel) (Nat.le_of_ble_eq_true rfl) (fun p e s m below meth c A H0 Q C K => w_f_X7_does C h K)
def i_X7_goDay_12 (S : St) (x1 : Int32) (x2 : Int32) (x3 : Int32) : Option ((St × Int32) ⊕ ((St × Int32) ⊕ (Int32 × St))) :=
  if x2 ≤ x3 then (some (.inr (.inl (S, x3)))) else (ck (okx (x1 + (((2 : Int32)) * x3)) 240) <| ck (okx ((x1 + (((2 : Int32)) * x3)) + ((1 : Int32))) 240) <| bd (f_X7_does S (S 3 (ix (x1 + (((2 : Int32)) * x3)))) (S 3 (ix ((x1 + (((2 : Int32)) * x3)) + ((1 : Int32)))))) fun r40 => if r40.1 = true then (some (.inl (r40.2, x3 + (1 : Int32)))) else (some (.inr (.inr (x3, r40.2)))))
set_option maxHeartbeats 4000000 in
set_option maxRecDepth 100000 in
theorem w_i_X7_goDay_12 {G : Geo} {p : Program} {l : Launch} {e : Env} {s : State} {m : MethodId} {args : Array Value} {below : List Frame} {meth : Method} {c : Code} {A : Nat → Prop} {H0 : Heap} {Q : State → Prop} (C : Cx G RX7 cX7_goDay 4 p s m args c) {S : St} {x1 : Int32} {x2 : Int32} {x3 : Int32} {o : (St × Int32) ⊕ ((St × Int32) ⊕ (Int32 × St))} (h : i_X7_goDay_12 S x1 x2 x3 = some o) (Kn : ∀ q, o = .inl q → ∀ (H : Heap) (locs : List Loc) (ls : Array Slot), HM G A H0 q.1 H locs → lv_has ls 4 [(0, .ref (adr G 0)), (1, .int x1), (2, .int x2), (3, .int (q.2))] → W p l e (rmK 3) s m args below meth c H locs 0 0 Q (F0 m 12 ls [])) (Kt : ∀ u, o = .inr u → (∀ q, u = .inl q → ∀ (H : Heap) (locs : List Loc) (ls : Array Slot), HM G A H0 q.1 H locs → lv_has ls 4 [] → W p l e (rmK 3) s m args below meth c H locs 0 0 Q (F0 m 54 ls [])) ∧ (∀ r, u = .inr r → KI 18 eM G A H0 cX7_goDay p l e 3 s m args below meth c Q ((r).1) ((r).2))) : ∀ (H : Heap) (locs : List Loc) (ls : Array Slot), HM G A H0 S H locs → lv_has ls 4 [(0, .ref (adr G 0)), (1, .int x1), (2, .int x2), (3, .int x3)] → W p l e (rmK 3) s m args below meth c H locs 0 0 Q (F0 m 12 ls []) := by
  obtain ⟨hx, hb, -⟩ := id C
  intro H locs ls hW hl
  unfold i_X7_goDay_12 at h
  refine lv_iload_n hx hb dX7_goDay_12 rfl (lv_at hl 3 rfl) ?_
  refine lv_iload_n hx hb dX7_goDay_13 rfl (lv_at hl 2 rfl) ?_
  refine lv_icmp_ge (tgt := 54) hx hb dX7_goDay_14 (by decide) (fun b14 => ?_) (fun b14 => ?_)
  · have h := it_t b14 h
    obtain rfl := Option.some.inj h
    exact (Kt _ rfl).1 _ rfl _ _ _ hW (lv_sub hl [] rfl)
  · have h := it_f b14 h
    refine lv_aload_n hx hb dX7_goDay_17 rfl (lv_at hl 0 rfl) ?_
    refine lv_aload_n hx hb dX7_goDay_18 rfl (lv_at hl 0 rfl) ?_
    refine gf_RX7_16 C hW dX7_goDay_19 ?_
    refine lv_iload_n hx hb dX7_goDay_22 rfl (lv_at hl 1 rfl) ?_
    refine lv_iconst (v := 2) hx hb dX7_goDay_23 (by decide) ?_
    refine lv_iload_n hx hb dX7_goDay_24 rfl (lv_at hl 3 rfl) ?_
    refine lv_imul hx hb dX7_goDay_25 ?_
    refine lv_iadd hx hb dX7_goDay_26 ?_
    obtain ⟨g27, h⟩ := ck_some h
    refine x_iald C hW (k := 3) (n := 240) (by decide) (fun _ => rfl) g27 dX7_goDay_27 ?_
    refine lv_aload_n hx hb dX7_goDay_28 rfl (lv_at hl 0 rfl) ?_
    refine gf_RX7_16 C hW dX7_goDay_29 ?_
    refine lv_iload_n hx hb dX7_goDay_32 rfl (lv_at hl 1 rfl) ?_
    refine lv_iconst (v := 2) hx hb dX7_goDay_33 (by decide) ?_
    refine lv_iload_n hx hb dX7_goDay_34 rfl (lv_at hl 3 rfl) ?_
    refine lv_imul hx hb dX7_goDay_35 ?_
    refine lv_iadd hx hb dX7_goDay_36 ?_
    refine lv_iconst (v := 1) hx hb dX7_goDay_37 (by decide) ?_
    refine lv_iadd hx hb dX7_goDay_38 ?_
    obtain ⟨g39, h⟩ := ck_some h
    refine x_iald C hW (k := 3) (n := 240) (by decide) (fun _ => rfl) g39 dX7_goDay_39 ?_
    obtain ⟨r40, r40h, h⟩ := bd_some h
    refine x_backI hW (x_runV (As := [.int (S 3 (ix (x1 + (((2 : Int32)) * x3)))), .int (S 3 (ix ((x1 + (((2 : Int32)) * x3)) + ((1 : Int32)))))]) (rest := []) C hW (c_X7_does l G r40h H.size) cv_RX7_153 rv_X7 hl.1 rfl rfl ⟨by decide, by decide⟩ (Nat.le_of_ble_eq_true rfl) ⟨Nat.zero_le _, Nat.zero_le _⟩ dX7_goDay_40) (fun H locs hW => ?_)
    refine z_if_ne (tgt := 48) hx hb dX7_goDay_43 (by decide) (fun b43 => ?_) (fun b43 => ?_)
    · have h := it_t b43 h
      refine lv_iinc (v := (x3 + (1 : Int32))) (lv' := [(3, .int (x3 + (1 : Int32))), (0, .ref (adr G 0)), (1, .int x1), (2, .int x2)]) hx hb dX7_goDay_48 hl (k := 3) rfl rfl (by decide) rfl (fun ls hl => ?_)
      refine lv_goto (tgt := 12) hx hb dX7_goDay_51 (by decide) ?_
      obtain rfl := Option.some.inj h
      exact Kn _ rfl _ _ _ hW (lv_sub hl [1, 2, 3, 0] rfl)
    · have h := it_f b43 h
      refine lv_iload_n hx hb dX7_goDay_46 rfl (lv_at hl 3 rfl) ?_
      obtain rfl := Option.some.inj h
      exact (Kt _ rfl).2 _ rfl _ _ _ _ dX7_goDay_47 hW
set_option maxHeartbeats 4000000 in
set_option maxRecDepth 100000 in
theorem l_i_X7_goDay_12 {G : Geo} {p : Program} {l : Launch} {e : Env} {s : State} {m : MethodId} {args : Array Value} {below : List Frame} {meth : Method} {c : Code} {A : Nat → Prop} {H0 : Heap} {Q : State → Prop} (C : Cx G RX7 cX7_goDay 4 p s m args c) {x1 : Int32} {x2 : Int32} {n : Nat} {q0 : St × Int32} {u : (St × Int32) ⊕ (Int32 × St)} (hq : iter (fun q : St × Int32 => i_X7_goDay_12 q.1 x1 x2 q.2) n q0 = some u) (Kt : (∀ q, u = .inl q → ∀ (H : Heap) (locs : List Loc) (ls : Array Slot), HM G A H0 q.1 H locs → lv_has ls 4 [] → W p l e (rmK 3) s m args below meth c H locs 0 0 Q (F0 m 54 ls [])) ∧ (∀ r, u = .inr r → KI 18 eM G A H0 cX7_goDay p l e 3 s m args below meth c Q ((r).1) ((r).2))) : (fun q : St × Int32 => ∀ (H : Heap) (locs : List Loc) (ls : Array Slot), HM G A H0 q.1 H locs → lv_has ls 4 [(0, .ref (adr G 0)), (1, .int x1), (2, .int x2), (3, .int (q.2))] → W p l e (rmK 3) s m args below meth c H locs 0 0 Q (F0 m 12 ls [])) q0 :=
  iter_W (P := fun q : St × Int32 => ∀ (H : Heap) (locs : List Loc) (ls : Array Slot), HM G A H0 q.1 H locs → lv_has ls 4 [(0, .ref (adr G 0)), (1, .int x1), (2, .int x2), (3, .int (q.2))] → W p l e (rmK 3) s m args below meth c H locs 0 0 Q (F0 m 12 ls [])) (K := fun u => (∀ q, u = .inl q → ∀ (H : Heap) (locs : List Loc) (ls : Array Slot), HM G A H0 q.1 H locs → lv_has ls 4 [] → W p l e (rmK 3) s m args below meth c H locs 0 0 Q (F0 m 54 ls [])) ∧ (∀ r, u = .inr r → KI 18 eM G A H0 cX7_goDay p l e 3 s m args below meth c Q ((r).1) ((r).2))) (fun q o hit Kn Kt => w_i_X7_goDay_12 C  hit Kn Kt) n q0 u hq Kt
def f_X7_goDay (S : St) (a0 : Int32) (a1 : Int32) : Option (Int32 × St) :=
  bd (iter (fun q => i_X7_goDay_12 q.1 a0 a1 q.2) BIG (up (up S 0 20 ((0 : Int32))) 0 21 ((0 : Int32)), (0 : Int32))) fun u12 => sm u12 (fun q12 => some ((-9 : Int32), q12.1)) fun w12 => some w12
set_option maxHeartbeats 4000000 in
set_option maxRecDepth 100000 in
theorem w_f_X7_goDay {G : Geo} {p : Program} {l : Launch} {e : Env} {s : State} {m : MethodId} {args : Array Value} {below : List Frame} {meth : Method} {c : Code} {A : Nat → Prop} {H0 : Heap} {Q : State → Prop} (C : Cx G RX7 cX7_goDay 4 p s m args c) {S : St} {a0 : Int32} {a1 : Int32} {o : Int32 × St} (h : f_X7_goDay S a0 a1 = some o) (K : KI 18 eM G A H0 cX7_goDay p l e 3 s m args below meth c Q ((o).1) ((o).2)) : ∀ (H : Heap) (locs : List Loc) (ls : Array Slot), HM G A H0 S H locs → lv_has ls 4 [(0, .ref (adr G 0)), (1, .int a0), (2, .int a1)] → W p l e (rmK 3) s m args below meth c H locs 0 0 Q (F0 m 0 ls []) := by
  obtain ⟨hx, hb, -⟩ := id C
  intro H locs ls hW hl
  unfold f_X7_goDay at h
  refine lv_aload_n hx hb dX7_goDay_0 rfl (lv_at hl 0 rfl) ?_
  refine lv_iconst (v := 0) hx hb dX7_goDay_1 (by decide) ?_
  refine pf_RX7_147 C hW dX7_goDay_2 (fun H locs hW => ?_)
  refine lv_aload_n hx hb dX7_goDay_5 rfl (lv_at hl 0 rfl) ?_
  refine lv_iconst (v := 0) hx hb dX7_goDay_6 (by decide) ?_
  refine pf_RX7_150 C hW dX7_goDay_7 (fun H locs hW => ?_)
  refine lv_iconst (v := 0) hx hb dX7_goDay_10 (by decide) ?_
  refine lv_istore_n (lv' := [(3, .int ((0 : Int32))), (0, .ref (adr G 0)), (1, .int a0), (2, .int a1)]) hx hb dX7_goDay_11 rfl hl (by decide) rfl (fun ls hl => ?_)
  obtain ⟨u12, u12h, h⟩ := bd_some h
  refine l_i_X7_goDay_12 C  u12h ⟨?_, ?_⟩ _ _ _ hW (lv_sub hl [1, 2, 3, 0] rfl)
  · intro q12 hu; subst hu; have h := sm_l h
    intro H locs ls hW hl
    refine lv_bipush (v := (-9)) hx hb dX7_goDay_54 (by decide) ?_
    obtain rfl := Option.some.inj h
    exact K _ _ _ _ dX7_goDay_56 hW
  · intro w12 hu; subst hu; have h := sm_r h
    obtain rfl := Option.some.inj h
    exact K
set_option maxRecDepth 100000 in
theorem c_X7_goDay (l : Launch) (G : Geo) {S : St} {a0 : Int32} {a1 : Int32} {o : Int32 × St} (h : f_X7_goDay S a0 a1 = some o) : MI 18 eM G l yX7_goDay cX7_goDay 4 (some .int) 3 [.ref (adr G 0), .int a0, .int a1] S o.1 o.2 :=
  mI_of (by decide +kernel) (Nat.le_of_ble_eq_true rfl) (fun p e s m below meth c A H0 Q C K => w_f_X7_goDay C h K)
def f_X7_tellDay (S : St) (a0 : Int32) : Option (Int32) :=
  if a0 < ((10 : Int32)) then (if a0 = 0 then (bd (f_X7_darkNow S) fun r65 => some r65) else if a0 = 1 then (some (S 0 21)) else if a0 = 2 then (bd (f_X7_allShades S) fun r70 => some r70) else if a0 = 3 then (some (S 0 20)) else (some (S 0 21))) else (bd (f_X7_isLamp S (a0 - ((10 : Int32)))) fun r11 => if r11 = false then (some ((-9 : Int32))) else (ck (okx (a0 - ((10 : Int32))) 5) <| some (S 5 (ix (a0 - ((10 : Int32)))))))
set_option maxHeartbeats 4000000 in
set_option maxRecDepth 100000 in
theorem w_f_X7_tellDay {G : Geo} {p : Program} {l : Launch} {e : Env} {s : State} {m : MethodId} {args : Array Value} {below : List Frame} {meth : Method} {c : Code} {A : Nat → Prop} {H0 : Heap} {Q : State → Prop} (C : Cx G RX7 cX7_tellDay 2 p s m args c) {S : St} {a0 : Int32} {o : Int32} (h : f_X7_tellDay S a0 = some o) (K : KI 18 eM G A H0 cX7_tellDay p l e 1 s m args below meth c Q o S) : ∀ (H : Heap) (locs : List Loc) (ls : Array Slot), HM G A H0 S H locs → lv_has ls 2 [(0, .ref (adr G 0)), (1, .int a0)] → W p l e (rmK 1) s m args below meth c H locs 0 0 Q (F0 m 0 ls []) := by
  obtain ⟨hx, hb, -⟩ := id C
  intro H locs ls hW hl
  unfold f_X7_tellDay at h
  refine lv_iload_n hx hb dX7_tellDay_0 rfl (lv_at hl 1 rfl) ?_
  refine lv_bipush (v := 10) hx hb dX7_tellDay_1 (by decide) ?_
  refine lv_icmp_lt (tgt := 32) hx hb dX7_tellDay_3 (by decide) (fun b3 => ?_) (fun b3 => ?_)
  · have h := it_t b3 h
    refine lv_iload_n hx hb dX7_tellDay_32 rfl (lv_at hl 1 rfl) ?_
    by_cases v33_0 : a0 = 0
    · have h := it_t v33_0 h
      refine lv_tableIn (off := 31) (tgt := 64) hx hb dX7_tellDay_33 (by rw [v33_0]; decide) (by rw [v33_0]; decide) (by rw [v33_0]; rfl) (by decide) ?_
      refine lv_aload_n hx hb dX7_tellDay_64 rfl (lv_at hl 0 rfl) ?_
      obtain ⟨r65, r65h, h⟩ := bd_some h
      refine x_backI hW (x_runV (As := []) (rest := []) C hW (c_X7_darkNow l G r65h H.size) cv_RX7_143 rv_X7 hl.1 rfl rfl ⟨by decide, by decide⟩ (Nat.le_of_ble_eq_true rfl) ⟨Nat.zero_le _, Nat.zero_le _⟩ dX7_tellDay_65) (fun H locs hW => ?_)
      obtain rfl := Option.some.inj h
      exact K _ _ _ _ dX7_tellDay_68 hW
    · have h := it_f v33_0 h
      by_cases v33_1 : a0 = 1
      · have h := it_t v33_1 h
        refine lv_tableIn (off := 46) (tgt := 79) hx hb dX7_tellDay_33 (by rw [v33_1]; decide) (by rw [v33_1]; decide) (by rw [v33_1]; rfl) (by decide) ?_
        refine lv_aload_n hx hb dX7_tellDay_79 rfl (lv_at hl 0 rfl) ?_
        refine gf_RX7_150 C hW dX7_tellDay_80 ?_
        obtain rfl := Option.some.inj h
        exact K _ _ _ _ dX7_tellDay_83 hW
      · have h := it_f v33_1 h
        by_cases v33_2 : a0 = 2
        · have h := it_t v33_2 h
          refine lv_tableIn (off := 36) (tgt := 69) hx hb dX7_tellDay_33 (by rw [v33_2]; decide) (by rw [v33_2]; decide) (by rw [v33_2]; rfl) (by decide) ?_
          refine lv_aload_n hx hb dX7_tellDay_69 rfl (lv_at hl 0 rfl) ?_
          obtain ⟨r70, r70h, h⟩ := bd_some h
          refine x_backI hW (x_runV (As := []) (rest := []) C hW (c_X7_allShades l G r70h H.size) cv_RX7_172 rv_X7 hl.1 rfl rfl ⟨by decide, by decide⟩ (Nat.le_of_ble_eq_true rfl) ⟨Nat.zero_le _, Nat.zero_le _⟩ dX7_tellDay_70) (fun H locs hW => ?_)
          obtain rfl := Option.some.inj h
          exact K _ _ _ _ dX7_tellDay_73 hW
        · have h := it_f v33_2 h
          by_cases v33_3 : a0 = 3
          · have h := it_t v33_3 h
            refine lv_tableIn (off := 41) (tgt := 74) hx hb dX7_tellDay_33 (by rw [v33_3]; decide) (by rw [v33_3]; decide) (by rw [v33_3]; rfl) (by decide) ?_
            refine lv_aload_n hx hb dX7_tellDay_74 rfl (lv_at hl 0 rfl) ?_
            refine gf_RX7_147 C hW dX7_tellDay_75 ?_
            obtain rfl := Option.some.inj h
            exact K _ _ _ _ dX7_tellDay_78 hW
          · have h := it_f v33_3 h
            have w33_0 := ne_i 0 0 (by decide) v33_0
            have w33_1 := ne_i 1 1 (by decide) v33_1
            have w33_2 := ne_i 2 2 (by decide) v33_2
            have w33_3 := ne_i 3 3 (by decide) v33_3
            refine lv_tableOut (tgt := 79) hx hb dX7_tellDay_33 (by omega) (by decide) ?_
            refine lv_aload_n hx hb dX7_tellDay_79 rfl (lv_at hl 0 rfl) ?_
            refine gf_RX7_150 C hW dX7_tellDay_80 ?_
            obtain rfl := Option.some.inj h
            exact K _ _ _ _ dX7_tellDay_83 hW
  · have h := it_f b3 h
    refine lv_aload_n hx hb dX7_tellDay_6 rfl (lv_at hl 0 rfl) ?_
    refine lv_iload_n hx hb dX7_tellDay_7 rfl (lv_at hl 1 rfl) ?_
    refine lv_bipush (v := 10) hx hb dX7_tellDay_8 (by decide) ?_
    refine lv_isub hx hb dX7_tellDay_10 ?_
    obtain ⟨r11, r11h, h⟩ := bd_some h
    refine x_backI hW (x_runV (As := [.int (a0 - ((10 : Int32)))]) (rest := []) C hW (c_X7_isLamp l G r11h H.size) cv_RX7_127 rv_X7 hl.1 rfl rfl ⟨by decide, by decide⟩ (Nat.le_of_ble_eq_true rfl) ⟨Nat.zero_le _, Nat.zero_le _⟩ dX7_tellDay_11) (fun H locs hW => ?_)
    refine z_if_eq (tgt := 29) hx hb dX7_tellDay_14 (by decide) (fun b14 => ?_) (fun b14 => ?_)
    · have h := it_t b14 h
      refine lv_bipush (v := (-9)) hx hb dX7_tellDay_29 (by decide) ?_
      obtain rfl := Option.some.inj h
      exact K _ _ _ _ dX7_tellDay_31 hW
    · have h := it_f b14 h
      refine lv_aload_n hx hb dX7_tellDay_17 rfl (lv_at hl 0 rfl) ?_
      refine gf_RX7_22 C hW dX7_tellDay_18 ?_
      refine lv_iload_n hx hb dX7_tellDay_21 rfl (lv_at hl 1 rfl) ?_
      refine lv_bipush (v := 10) hx hb dX7_tellDay_22 (by decide) ?_
      refine lv_isub hx hb dX7_tellDay_24 ?_
      obtain ⟨g25, h⟩ := ck_some h
      refine x_iald C hW (k := 5) (n := 5) (by decide) (fun _ => rfl) g25 dX7_tellDay_25 ?_
      refine lv_goto (tgt := 31) hx hb dX7_tellDay_26 (by decide) ?_
      obtain rfl := Option.some.inj h
      exact K _ _ _ _ dX7_tellDay_31 hW
set_option maxRecDepth 100000 in
theorem c_X7_tellDay (l : Launch) (G : Geo) {S : St} {a0 : Int32} {o : Int32} (h : f_X7_tellDay S a0 = some o) : MI 18 eM G l yX7_tellDay cX7_tellDay 2 (some .int) 1 [.ref (adr G 0), .int a0] S o S :=
  mI_of (by decide +kernel) (Nat.le_of_ble_eq_true rfl) (fun p e s m below meth c A H0 Q C K => w_f_X7_tellDay C h K)
def i_X7_putBack_2 (S : St) (x1 : Int32) : Option ((St × Int32) ⊕ (St × Int32)) :=
  if (S 0 5) ≤ x1 then (some (.inr (S, x1))) else (ck (okx x1 5) <| ck (okx x1 5) <| some (.inl (up S 5 (ix x1) (S 12 (ix x1)), x1 + (1 : Int32))))
set_option maxHeartbeats 4000000 in
set_option maxRecDepth 100000 in
theorem w_i_X7_putBack_2 {G : Geo} {p : Program} {l : Launch} {e : Env} {s : State} {m : MethodId} {args : Array Value} {below : List Frame} {meth : Method} {c : Code} {A : Nat → Prop} {H0 : Heap} {Q : State → Prop} (C : Cx G RX7 cX7_putBack 2 p s m args c) {S : St} {x1 : Int32} {o : (St × Int32) ⊕ (St × Int32)} (h : i_X7_putBack_2 S x1 = some o) (Kn : ∀ q, o = .inl q → ∀ (H : Heap) (locs : List Loc) (ls : Array Slot), HM G A H0 q.1 H locs → lv_has ls 2 [(0, .ref (adr G 0)), (1, .int (q.2))] → W p l e (rmK 0) s m args below meth c H locs 0 0 Q (F0 m 2 ls [])) (Kt : ∀ q, o = .inr q → ∀ (H : Heap) (locs : List Loc) (ls : Array Slot), HM G A H0 q.1 H locs → lv_has ls 2 [] → W p l e (rmK 0) s m args below meth c H locs 0 0 Q (F0 m 28 ls [])) : ∀ (H : Heap) (locs : List Loc) (ls : Array Slot), HM G A H0 S H locs → lv_has ls 2 [(0, .ref (adr G 0)), (1, .int x1)] → W p l e (rmK 0) s m args below meth c H locs 0 0 Q (F0 m 2 ls []) := by
  obtain ⟨hx, hb, -⟩ := id C
  intro H locs ls hW hl
  unfold i_X7_putBack_2 at h
  refine lv_iload_n hx hb dX7_putBack_2 rfl (lv_at hl 1 rfl) ?_
  refine lv_aload_n hx hb dX7_putBack_3 rfl (lv_at hl 0 rfl) ?_
  refine gf_RX7_71 C hW dX7_putBack_4 ?_
  refine lv_icmp_ge (tgt := 28) hx hb dX7_putBack_7 (by decide) (fun b7 => ?_) (fun b7 => ?_)
  · have h := it_t b7 h
    obtain rfl := Option.some.inj h
    exact Kt _ rfl _ _ _ hW (lv_sub hl [] rfl)
  · have h := it_f b7 h
    refine lv_aload_n hx hb dX7_putBack_10 rfl (lv_at hl 0 rfl) ?_
    refine gf_RX7_22 C hW dX7_putBack_11 ?_
    refine lv_iload_n hx hb dX7_putBack_14 rfl (lv_at hl 1 rfl) ?_
    refine lv_aload_n hx hb dX7_putBack_15 rfl (lv_at hl 0 rfl) ?_
    refine gf_RX7_43 C hW dX7_putBack_16 ?_
    refine lv_iload_n hx hb dX7_putBack_19 rfl (lv_at hl 1 rfl) ?_
    obtain ⟨g20, h⟩ := ck_some h
    refine x_iald C hW (k := 12) (n := 5) (by decide) (fun _ => rfl) g20 dX7_putBack_20 ?_
    obtain ⟨g21, h⟩ := ck_some h
    refine x_iast C hW (k := 5) (n := 5) (by decide) (fun _ => rfl) g21 dX7_putBack_21 (fun H locs hW => ?_)
    refine lv_iinc (v := (x1 + (1 : Int32))) (lv' := [(1, .int (x1 + (1 : Int32))), (0, .ref (adr G 0))]) hx hb dX7_putBack_22 hl (k := 1) rfl rfl (by decide) rfl (fun ls hl => ?_)
    refine lv_goto (tgt := 2) hx hb dX7_putBack_25 (by decide) ?_
    obtain rfl := Option.some.inj h
    exact Kn _ rfl _ _ _ hW (lv_sub hl [1, 0] rfl)
set_option maxHeartbeats 4000000 in
set_option maxRecDepth 100000 in
theorem l_i_X7_putBack_2 {G : Geo} {p : Program} {l : Launch} {e : Env} {s : State} {m : MethodId} {args : Array Value} {below : List Frame} {meth : Method} {c : Code} {A : Nat → Prop} {H0 : Heap} {Q : State → Prop} (C : Cx G RX7 cX7_putBack 2 p s m args c)  {n : Nat} {q0 : St × Int32} {u : St × Int32} (hq : iter (fun q : St × Int32 => i_X7_putBack_2 q.1 q.2) n q0 = some u) (Kt : (fun q : St × Int32 => ∀ (H : Heap) (locs : List Loc) (ls : Array Slot), HM G A H0 q.1 H locs → lv_has ls 2 [] → W p l e (rmK 0) s m args below meth c H locs 0 0 Q (F0 m 28 ls [])) u) : (fun q : St × Int32 => ∀ (H : Heap) (locs : List Loc) (ls : Array Slot), HM G A H0 q.1 H locs → lv_has ls 2 [(0, .ref (adr G 0)), (1, .int (q.2))] → W p l e (rmK 0) s m args below meth c H locs 0 0 Q (F0 m 2 ls [])) q0 :=
  iter_W (P := fun q : St × Int32 => ∀ (H : Heap) (locs : List Loc) (ls : Array Slot), HM G A H0 q.1 H locs → lv_has ls 2 [(0, .ref (adr G 0)), (1, .int (q.2))] → W p l e (rmK 0) s m args below meth c H locs 0 0 Q (F0 m 2 ls [])) (K := fun q : St × Int32 => ∀ (H : Heap) (locs : List Loc) (ls : Array Slot), HM G A H0 q.1 H locs → lv_has ls 2 [] → W p l e (rmK 0) s m args below meth c H locs 0 0 Q (F0 m 28 ls [])) (fun q o hit Kn Kt => w_i_X7_putBack_2 C  hit Kn Kt) n q0 u hq Kt
def f_X7_putBack (S : St) : Option (St) :=
  bd (iter (fun q => i_X7_putBack_2 q.1 q.2) BIG (S, (0 : Int32))) fun q2 => some q2.1
set_option maxHeartbeats 4000000 in
set_option maxRecDepth 100000 in
theorem w_f_X7_putBack {G : Geo} {p : Program} {l : Launch} {e : Env} {s : State} {m : MethodId} {args : Array Value} {below : List Frame} {meth : Method} {c : Code} {A : Nat → Prop} {H0 : Heap} {Q : State → Prop} (C : Cx G RX7 cX7_putBack 2 p s m args c) {S : St}  {o : St} (h : f_X7_putBack S = some o) (K : KV 18 eM G A H0 cX7_putBack p l e 0 s m args below meth c Q o) : ∀ (H : Heap) (locs : List Loc) (ls : Array Slot), HM G A H0 S H locs → lv_has ls 2 [(0, .ref (adr G 0))] → W p l e (rmK 0) s m args below meth c H locs 0 0 Q (F0 m 0 ls []) := by
  obtain ⟨hx, hb, -⟩ := id C
  intro H locs ls hW hl
  unfold f_X7_putBack at h
  refine lv_iconst (v := 0) hx hb dX7_putBack_0 (by decide) ?_
  refine lv_istore_n (lv' := [(1, .int ((0 : Int32))), (0, .ref (adr G 0))]) hx hb dX7_putBack_1 rfl hl (by decide) rfl (fun ls hl => ?_)
  obtain ⟨q2, q2h, h⟩ := bd_some h
  refine l_i_X7_putBack_2 C  q2h ?_ _ _ _ hW (lv_sub hl [1, 0] rfl)
  intro H locs ls hW hl
  obtain rfl := Option.some.inj h
  exact K _ _ _ _ dX7_putBack_28 hW
set_option maxRecDepth 100000 in
theorem c_X7_putBack (l : Launch) (G : Geo) {S : St}  {o : St} (h : f_X7_putBack S = some o) : MV 18 eM G l yX7_putBack cX7_putBack 2 none 0 [.ref (adr G 0)] S o :=
  mV_of (by decide +kernel) (Nat.le_of_ble_eq_true rfl) (fun p e s m below meth c A H0 Q C K => w_f_X7_putBack C h K)
def i_X7_day_103 (S : St) (x4 : Int32) (x5 : Int32) (x7 : Int32) (x8 : Int32) : Option ((Int32) ⊕ ((Int32) ⊕ (Int32 × St))) :=
  if x4 ≤ x8 then (some (.inr (.inl x8))) else (ck (okx (x7 + (((2 : Int32)) * x8)) 240) <| ck (okx ((x7 + (((2 : Int32)) * x8)) + ((1 : Int32))) 240) <| bd (f_X7_refusesPair S (S 3 (ix (x7 + (((2 : Int32)) * x8)))) (S 3 (ix ((x7 + (((2 : Int32)) * x8)) + ((1 : Int32)))))) fun r137 => if r137 = 0 then (some (.inl (x8 + (1 : Int32)))) else (some (.inr (.inr (r137, S)))))
set_option maxHeartbeats 4000000 in
set_option maxRecDepth 100000 in
theorem w_i_X7_day_103 {G : Geo} {p : Program} {l : Launch} {e : Env} {s : State} {m : MethodId} {args : Array Value} {below : List Frame} {meth : Method} {c : Code} {A : Nat → Prop} {H0 : Heap} {Q : State → Prop} (C : Cx G RX7 cX7_day 10 p s m args c) {S : St} {x4 : Int32} {x5 : Int32} {x7 : Int32} {x8 : Int32} {o : (Int32) ⊕ ((Int32) ⊕ (Int32 × St))} (h : i_X7_day_103 S x4 x5 x7 x8 = some o) (Kn : ∀ q, o = .inl q → ∀ (H : Heap) (locs : List Loc) (ls : Array Slot), HM G A H0 S H locs → lv_has ls 10 [(0, .ref (adr G 0)), (4, .int x4), (5, .int x5), (7, .int x7), (8, .int q)] → W p l e (rmK 4) s m args below meth c H locs 0 0 Q (F0 m 103 ls [])) (Kt : ∀ u, o = .inr u → (∀ q, u = .inl q → ∀ (H : Heap) (locs : List Loc) (ls : Array Slot), HM G A H0 S H locs → lv_has ls 10 [(0, .ref (adr G 0)), (4, .int x4), (5, .int x5), (7, .int x7)] → W p l e (rmK 4) s m args below meth c H locs 0 0 Q (F0 m 156 ls [])) ∧ (∀ r, u = .inr r → KI 18 eM G A H0 cX7_day p l e 4 s m args below meth c Q ((r).1) ((r).2))) : ∀ (H : Heap) (locs : List Loc) (ls : Array Slot), HM G A H0 S H locs → lv_has ls 10 [(0, .ref (adr G 0)), (4, .int x4), (5, .int x5), (7, .int x7), (8, .int x8)] → W p l e (rmK 4) s m args below meth c H locs 0 0 Q (F0 m 103 ls []) := by
  obtain ⟨hx, hb, -⟩ := id C
  intro H locs ls hW hl
  unfold i_X7_day_103 at h
  refine lv_iload hx hb dX7_day_103 (lv_at hl 4 rfl) ?_
  refine lv_iload hx hb dX7_day_105 (lv_at hl 1 rfl) ?_
  refine lv_icmp_ge (tgt := 156) hx hb dX7_day_107 (by decide) (fun b107 => ?_) (fun b107 => ?_)
  · have h := it_t b107 h
    obtain rfl := Option.some.inj h
    exact (Kt _ rfl).1 _ rfl _ _ _ hW (lv_sub hl [0, 1, 2, 3] rfl)
  · have h := it_f b107 h
    refine lv_aload_n hx hb dX7_day_110 rfl (lv_at hl 0 rfl) ?_
    refine lv_aload_n hx hb dX7_day_111 rfl (lv_at hl 0 rfl) ?_
    refine gf_RX7_16 C hW dX7_day_112 ?_
    refine lv_iload hx hb dX7_day_115 (lv_at hl 3 rfl) ?_
    refine lv_iconst (v := 2) hx hb dX7_day_117 (by decide) ?_
    refine lv_iload hx hb dX7_day_118 (lv_at hl 4 rfl) ?_
    refine lv_imul hx hb dX7_day_120 ?_
    refine lv_iadd hx hb dX7_day_121 ?_
    obtain ⟨g122, h⟩ := ck_some h
    refine x_iald C hW (k := 3) (n := 240) (by decide) (fun _ => rfl) g122 dX7_day_122 ?_
    refine lv_aload_n hx hb dX7_day_123 rfl (lv_at hl 0 rfl) ?_
    refine gf_RX7_16 C hW dX7_day_124 ?_
    refine lv_iload hx hb dX7_day_127 (lv_at hl 3 rfl) ?_
    refine lv_iconst (v := 2) hx hb dX7_day_129 (by decide) ?_
    refine lv_iload hx hb dX7_day_130 (lv_at hl 4 rfl) ?_
    refine lv_imul hx hb dX7_day_132 ?_
    refine lv_iadd hx hb dX7_day_133 ?_
    refine lv_iconst (v := 1) hx hb dX7_day_134 (by decide) ?_
    refine lv_iadd hx hb dX7_day_135 ?_
    obtain ⟨g136, h⟩ := ck_some h
    refine x_iald C hW (k := 3) (n := 240) (by decide) (fun _ => rfl) g136 dX7_day_136 ?_
    obtain ⟨r137, r137h, h⟩ := bd_some h
    refine x_backI hW (x_runV (As := [.int (S 3 (ix (x7 + (((2 : Int32)) * x8)))), .int (S 3 (ix ((x7 + (((2 : Int32)) * x8)) + ((1 : Int32)))))]) (rest := []) C hW (c_X7_refusesPair l G r137h H.size) cv_RX7_156 rv_X7 hl.1 rfl rfl ⟨by decide, by decide⟩ (Nat.le_of_ble_eq_true rfl) ⟨Nat.zero_le _, Nat.zero_le _⟩ dX7_day_137) (fun H locs hW => ?_)
    refine lv_istore (lv' := [(9, .int r137), (0, .ref (adr G 0)), (4, .int x4), (5, .int x5), (7, .int x7), (8, .int x8)]) hx hb dX7_day_140 hl (by decide) rfl (fun ls hl => ?_)
    refine lv_iload hx hb dX7_day_142 (lv_at hl 0 rfl) ?_
    refine lv_if_eq (tgt := 150) hx hb dX7_day_144 (by decide) (fun b144 => ?_) (fun b144 => ?_)
    · have h := it_t b144 h
      refine lv_iinc (v := (x8 + (1 : Int32))) (lv' := [(8, .int (x8 + (1 : Int32))), (9, .int r137), (0, .ref (adr G 0)), (4, .int x4), (5, .int x5), (7, .int x7)]) hx hb dX7_day_150 hl (k := 5) rfl rfl (by decide) rfl (fun ls hl => ?_)
      refine lv_goto (tgt := 103) hx hb dX7_day_153 (by decide) ?_
      obtain rfl := Option.some.inj h
      exact Kn _ rfl _ _ _ hW (lv_sub hl [2, 3, 4, 5, 0] rfl)
    · have h := it_f b144 h
      refine lv_iload hx hb dX7_day_147 (lv_at hl 0 rfl) ?_
      obtain rfl := Option.some.inj h
      exact (Kt _ rfl).2 _ rfl _ _ _ _ dX7_day_149 hW
set_option maxHeartbeats 4000000 in
set_option maxRecDepth 100000 in
theorem l_i_X7_day_103 {G : Geo} {p : Program} {l : Launch} {e : Env} {s : State} {m : MethodId} {args : Array Value} {below : List Frame} {meth : Method} {c : Code} {A : Nat → Prop} {H0 : Heap} {Q : State → Prop} (C : Cx G RX7 cX7_day 10 p s m args c) {S : St} {x4 : Int32} {x5 : Int32} {x7 : Int32} {n : Nat} {q0 : Int32} {u : (Int32) ⊕ (Int32 × St)} (hq : iter (fun q : Int32 => i_X7_day_103 S x4 x5 x7 q) n q0 = some u) (Kt : (∀ q, u = .inl q → ∀ (H : Heap) (locs : List Loc) (ls : Array Slot), HM G A H0 S H locs → lv_has ls 10 [(0, .ref (adr G 0)), (4, .int x4), (5, .int x5), (7, .int x7)] → W p l e (rmK 4) s m args below meth c H locs 0 0 Q (F0 m 156 ls [])) ∧ (∀ r, u = .inr r → KI 18 eM G A H0 cX7_day p l e 4 s m args below meth c Q ((r).1) ((r).2))) : (fun q : Int32 => ∀ (H : Heap) (locs : List Loc) (ls : Array Slot), HM G A H0 S H locs → lv_has ls 10 [(0, .ref (adr G 0)), (4, .int x4), (5, .int x5), (7, .int x7), (8, .int q)] → W p l e (rmK 4) s m args below meth c H locs 0 0 Q (F0 m 103 ls [])) q0 :=
  iter_W (P := fun q : Int32 => ∀ (H : Heap) (locs : List Loc) (ls : Array Slot), HM G A H0 S H locs → lv_has ls 10 [(0, .ref (adr G 0)), (4, .int x4), (5, .int x5), (7, .int x7), (8, .int q)] → W p l e (rmK 4) s m args below meth c H locs 0 0 Q (F0 m 103 ls [])) (K := fun u => (∀ q, u = .inl q → ∀ (H : Heap) (locs : List Loc) (ls : Array Slot), HM G A H0 S H locs → lv_has ls 10 [(0, .ref (adr G 0)), (4, .int x4), (5, .int x5), (7, .int x7)] → W p l e (rmK 4) s m args below meth c H locs 0 0 Q (F0 m 156 ls [])) ∧ (∀ r, u = .inr r → KI 18 eM G A H0 cX7_day p l e 4 s m args below meth c Q ((r).1) ((r).2))) (fun q o hit Kn Kt => w_i_X7_day_103 C  hit Kn Kt) n q0 u hq Kt
def j_X7_day_57 (S : St) (x1 : Int32) (x2 : Int32) (x3 : Int32) (x4 : Int32) (x5 : Int32) : Option (Int32 × St) :=
  bd (f_X7_against S x1 x2 x3 (((2 : Int32)) * x4)) fun r65 => if r65 = 0 then (if (S 0 5) = 0 then (some ((-3 : Int32), S)) else (bd (iter (fun q => i_X7_day_103 S x4 x5 ((((60 : Int32)) * x1) + x3) q) BIG ((0 : Int32))) fun u103 => sm u103 (fun q103 => bd (f_X7_keep S) fun r157 => bd (f_X7_goDay r157 ((((60 : Int32)) * x1) + x3) x4) fun r165 => bd (f_X7_tellDay r165.2 x5) fun r173 => bd (f_X7_putBack r165.2) fun r179 => if x5 = ((1 : Int32)) then (some (r165.1, r179)) else (if r165.1 = ((-9 : Int32)) then (some (r173, r179)) else (some (((-100 : Int32)) - r165.1, r179)))) fun w103 => some w103)) else (bd (f_X7_fails S r65) fun r78 => some (r78.1, r78.2))
set_option maxHeartbeats 4000000 in
set_option maxRecDepth 100000 in
theorem w_j_X7_day_57 {G : Geo} {p : Program} {l : Launch} {e : Env} {s : State} {m : MethodId} {args : Array Value} {below : List Frame} {meth : Method} {c : Code} {A : Nat → Prop} {H0 : Heap} {Q : State → Prop} (C : Cx G RX7 cX7_day 10 p s m args c) {S : St} {x1 : Int32} {x2 : Int32} {x3 : Int32} {x4 : Int32} {x5 : Int32} {o : Int32 × St} (h : j_X7_day_57 S x1 x2 x3 x4 x5 = some o) (K : KI 18 eM G A H0 cX7_day p l e 4 s m args below meth c Q ((o).1) ((o).2)) : ∀ (H : Heap) (locs : List Loc) (ls : Array Slot), HM G A H0 S H locs → lv_has ls 10 [(0, .ref (adr G 0)), (1, .int x1), (2, .int x2), (3, .int x3), (4, .int x4), (5, .int x5)] → W p l e (rmK 4) s m args below meth c H locs 0 0 Q (F0 m 57 ls []) := by
  obtain ⟨hx, hb, -⟩ := id C
  intro H locs ls hW hl
  unfold j_X7_day_57 at h
  refine lv_aload_n hx hb dX7_day_57 rfl (lv_at hl 0 rfl) ?_
  refine lv_iload_n hx hb dX7_day_58 rfl (lv_at hl 1 rfl) ?_
  refine lv_iload_n hx hb dX7_day_59 rfl (lv_at hl 2 rfl) ?_
  refine lv_iload_n hx hb dX7_day_60 rfl (lv_at hl 3 rfl) ?_
  refine lv_iconst (v := 2) hx hb dX7_day_61 (by decide) ?_
  refine lv_iload hx hb dX7_day_62 (lv_at hl 4 rfl) ?_
  refine lv_imul hx hb dX7_day_64 ?_
  obtain ⟨r65, r65h, h⟩ := bd_some h
  refine x_backI hW (x_runV (As := [.int x1, .int x2, .int x3, .int (((2 : Int32)) * x4)]) (rest := []) C hW (c_X7_against l G r65h H.size) cv_RX7_87 rv_X7 hl.1 rfl rfl ⟨by decide, by decide⟩ (Nat.le_of_ble_eq_true rfl) ⟨Nat.zero_le _, Nat.zero_le _⟩ dX7_day_65) (fun H locs hW => ?_)
  refine lv_istore (lv' := [(6, .int r65), (0, .ref (adr G 0)), (1, .int x1), (2, .int x2), (3, .int x3), (4, .int x4), (5, .int x5)]) hx hb dX7_day_68 hl (by decide) rfl (fun ls hl => ?_)
  refine lv_iload hx hb dX7_day_70 (lv_at hl 0 rfl) ?_
  refine lv_if_eq (tgt := 82) hx hb dX7_day_72 (by decide) (fun b72 => ?_) (fun b72 => ?_)
  · have h := it_t b72 h
    refine lv_aload_n hx hb dX7_day_82 rfl (lv_at hl 1 rfl) ?_
    refine gf_RX7_71 C hW dX7_day_83 ?_
    refine lv_if_ne (tgt := 92) hx hb dX7_day_86 (by decide) (fun b86 => ?_) (fun b86 => ?_)
    · have h := it_f b86 h
      refine lv_bipush (v := 60) hx hb dX7_day_92 (by decide) ?_
      refine lv_iload_n hx hb dX7_day_94 rfl (lv_at hl 2 rfl) ?_
      refine lv_imul hx hb dX7_day_95 ?_
      refine lv_iload_n hx hb dX7_day_96 rfl (lv_at hl 4 rfl) ?_
      refine lv_iadd hx hb dX7_day_97 ?_
      refine lv_istore (lv' := [(7, .int ((((60 : Int32)) * x1) + x3)), (6, .int r65), (0, .ref (adr G 0)), (1, .int x1), (2, .int x2), (3, .int x3), (4, .int x4), (5, .int x5)]) hx hb dX7_day_98 hl (by decide) rfl (fun ls hl => ?_)
      refine lv_iconst (v := 0) hx hb dX7_day_100 (by decide) ?_
      refine lv_istore (lv' := [(8, .int ((0 : Int32))), (7, .int ((((60 : Int32)) * x1) + x3)), (6, .int r65), (0, .ref (adr G 0)), (1, .int x1), (2, .int x2), (3, .int x3), (4, .int x4), (5, .int x5)]) hx hb dX7_day_101 hl (by decide) rfl (fun ls hl => ?_)
      obtain ⟨u103, u103h, h⟩ := bd_some h
      refine l_i_X7_day_103 C  u103h ⟨?_, ?_⟩ _ _ _ hW (lv_sub hl [3, 7, 8, 1, 0] rfl)
      · intro q103 hu; subst hu; have h := sm_l h
        intro H locs ls hW hl
        refine lv_aload_n hx hb dX7_day_156 rfl (lv_at hl 0 rfl) ?_
        obtain ⟨r157, r157h, h⟩ := bd_some h
        refine x_backV hW (x_runV (As := []) (rest := []) C hW (c_X7_keep l G r157h H.size) cv_RX7_160 rv_X7 hl.1 rfl rfl ⟨by decide, by decide⟩ (Nat.le_of_ble_eq_true rfl) ⟨Nat.zero_le _, Nat.zero_le _⟩ dX7_day_157) (fun H locs hW => ?_)
        refine lv_aload_n hx hb dX7_day_160 rfl (lv_at hl 0 rfl) ?_
        refine lv_iload hx hb dX7_day_161 (lv_at hl 3 rfl) ?_
        refine lv_iload hx hb dX7_day_163 (lv_at hl 1 rfl) ?_
        obtain ⟨r165, r165h, h⟩ := bd_some h
        refine x_backI hW (x_runV (As := [.int ((((60 : Int32)) * x1) + x3), .int x4]) (rest := []) C hW (c_X7_goDay l G r165h H.size) cv_RX7_163 rv_X7 hl.1 rfl rfl ⟨by decide, by decide⟩ (Nat.le_of_ble_eq_true rfl) ⟨Nat.zero_le _, Nat.zero_le _⟩ dX7_day_165) (fun H locs hW => ?_)
        refine lv_istore (lv' := [(8, .int (r165.1)), (0, .ref (adr G 0)), (4, .int x4), (5, .int x5), (7, .int ((((60 : Int32)) * x1) + x3))]) hx hb dX7_day_168 hl (by decide) rfl (fun ls hl => ?_)
        refine lv_aload_n hx hb dX7_day_170 rfl (lv_at hl 1 rfl) ?_
        refine lv_iload hx hb dX7_day_171 (lv_at hl 3 rfl) ?_
        obtain ⟨r173, r173h, h⟩ := bd_some h
        refine x_backI hW (x_runV (As := [.int x5]) (rest := []) C hW (c_X7_tellDay l G r173h H.size) cv_RX7_166 rv_X7 hl.1 rfl rfl ⟨by decide, by decide⟩ (Nat.le_of_ble_eq_true rfl) ⟨Nat.zero_le _, Nat.zero_le _⟩ dX7_day_173) (fun H locs hW => ?_)
        refine lv_istore (lv' := [(9, .int r173), (8, .int (r165.1)), (0, .ref (adr G 0)), (4, .int x4), (5, .int x5), (7, .int ((((60 : Int32)) * x1) + x3))]) hx hb dX7_day_176 hl (by decide) rfl (fun ls hl => ?_)
        refine lv_aload_n hx hb dX7_day_178 rfl (lv_at hl 2 rfl) ?_
        obtain ⟨r179, r179h, h⟩ := bd_some h
        refine x_backV hW (x_runV (As := []) (rest := []) C hW (c_X7_putBack l G r179h H.size) cv_RX7_169 rv_X7 hl.1 rfl rfl ⟨by decide, by decide⟩ (Nat.le_of_ble_eq_true rfl) ⟨Nat.zero_le _, Nat.zero_le _⟩ dX7_day_179) (fun H locs hW => ?_)
        refine lv_iload hx hb dX7_day_182 (lv_at hl 4 rfl) ?_
        refine lv_iconst (v := 1) hx hb dX7_day_184 (by decide) ?_
        refine lv_icmp_ne (tgt := 193) hx hb dX7_day_185 (by decide) (fun b185 => ?_) (fun b185 => ?_)
        · have h := it_f b185 h
          refine lv_iload hx hb dX7_day_193 (lv_at hl 1 rfl) ?_
          refine lv_bipush (v := (-9)) hx hb dX7_day_195 (by decide) ?_
          refine lv_icmp_ne (tgt := 205) hx hb dX7_day_197 (by decide) (fun b197 => ?_) (fun b197 => ?_)
          · have h := it_f b197 h
            refine lv_bipush (v := (-100)) hx hb dX7_day_205 (by decide) ?_
            refine lv_iload hx hb dX7_day_207 (lv_at hl 1 rfl) ?_
            refine lv_isub hx hb dX7_day_209 ?_
            obtain rfl := Option.some.inj h
            exact K _ _ _ _ dX7_day_210 hW
          · have h := it_t b197 h
            refine lv_iload hx hb dX7_day_200 (lv_at hl 0 rfl) ?_
            refine lv_goto (tgt := 210) hx hb dX7_day_202 (by decide) ?_
            obtain rfl := Option.some.inj h
            exact K _ _ _ _ dX7_day_210 hW
        · have h := it_t b185 h
          refine lv_iload hx hb dX7_day_188 (lv_at hl 1 rfl) ?_
          refine lv_goto (tgt := 210) hx hb dX7_day_190 (by decide) ?_
          obtain rfl := Option.some.inj h
          exact K _ _ _ _ dX7_day_210 hW
      · intro w103 hu; subst hu; have h := sm_r h
        obtain rfl := Option.some.inj h
        exact K
    · have h := it_t b86 h
      refine lv_bipush (v := (-3)) hx hb dX7_day_89 (by decide) ?_
      obtain rfl := Option.some.inj h
      exact K _ _ _ _ dX7_day_91 hW
  · have h := it_f b72 h
    refine lv_aload_n hx hb dX7_day_75 rfl (lv_at hl 1 rfl) ?_
    refine lv_iload hx hb dX7_day_76 (lv_at hl 0 rfl) ?_
    obtain ⟨r78, r78h, h⟩ := bd_some h
    refine x_backI hW (x_runV (As := [.int r65]) (rest := []) C hW (c_X7_fails l G r78h H.size) cv_RX7_91 rv_X7 hl.1 rfl rfl ⟨by decide, by decide⟩ (Nat.le_of_ble_eq_true rfl) ⟨Nat.zero_le _, Nat.zero_le _⟩ dX7_day_78) (fun H locs hW => ?_)
    obtain rfl := Option.some.inj h
    exact K _ _ _ _ dX7_day_81 hW
def f_X7_day (S : St) (a0 : Int32) (a1 : Int32) (a2 : Int32) (a3 : Int32) (a4 : Int32) : Option (Int32 × St) :=
  bd (f_X7_isSheet a0) fun r6 => if r6 = true then (bd (f_X7_isSort a1) fun r15 => if r15 = false then (some ((-2 : Int32), up S 0 0 ((0 : Int32)))) else (bd (f_X7_within a3 ((0 : Int32)) ((20 : Int32))) fun r26 => if r26 = false then (some ((-2 : Int32), up S 0 0 ((0 : Int32)))) else (bd (f_X7_within a4 ((0 : Int32)) ((4 : Int32))) fun r36 => if r36 = true then (j_X7_day_57 (up S 0 0 ((0 : Int32))) a0 a1 a2 a3 a4) else (bd (f_X7_within a4 ((10 : Int32)) ((14 : Int32))) fun r48 => if r48 = true then (j_X7_day_57 (up S 0 0 ((0 : Int32))) a0 a1 a2 a3 a4) else (some ((-2 : Int32), up S 0 0 ((0 : Int32)))))))) else (some ((-1 : Int32), up S 0 0 ((0 : Int32))))
set_option maxHeartbeats 4000000 in
set_option maxRecDepth 100000 in
theorem w_f_X7_day {G : Geo} {p : Program} {l : Launch} {e : Env} {s : State} {m : MethodId} {args : Array Value} {below : List Frame} {meth : Method} {c : Code} {A : Nat → Prop} {H0 : Heap} {Q : State → Prop} (C : Cx G RX7 cX7_day 10 p s m args c) {S : St} {a0 : Int32} {a1 : Int32} {a2 : Int32} {a3 : Int32} {a4 : Int32} {o : Int32 × St} (h : f_X7_day S a0 a1 a2 a3 a4 = some o) (K : KI 18 eM G A H0 cX7_day p l e 4 s m args below meth c Q ((o).1) ((o).2)) : ∀ (H : Heap) (locs : List Loc) (ls : Array Slot), HM G A H0 S H locs → lv_has ls 10 [(0, .ref (adr G 0)), (1, .int a0), (2, .int a1), (3, .int a2), (4, .int a3), (5, .int a4)] → W p l e (rmK 4) s m args below meth c H locs 0 0 Q (F0 m 0 ls []) := by
  obtain ⟨hx, hb, -⟩ := id C
  intro H locs ls hW hl
  unfold f_X7_day at h
  refine lv_aload_n hx hb dX7_day_0 rfl (lv_at hl 0 rfl) ?_
  refine lv_iconst (v := 0) hx hb dX7_day_1 (by decide) ?_
  refine pf_RX7_61 C hW dX7_day_2 (fun H locs hW => ?_)
  refine lv_iload_n hx hb dX7_day_5 rfl (lv_at hl 1 rfl) ?_
  obtain ⟨r6, r6h, h⟩ := bd_some h
  refine x_backI hW (x_runS (As := [.int a0]) (rest := []) C hW (c_X7_isSheet l G (S := up S 0 0 ((0 : Int32))) r6h H.size) cs_RX7_80 hl.1 rfl rfl ⟨by decide, by decide⟩ (Nat.le_of_ble_eq_true rfl) ⟨Nat.zero_le _, Nat.zero_le _⟩ dX7_day_6) (fun H locs hW => ?_)
  refine z_if_ne (tgt := 14) hx hb dX7_day_9 (by decide) (fun b9 => ?_) (fun b9 => ?_)
  · have h := it_t b9 h
    refine lv_iload_n hx hb dX7_day_14 rfl (lv_at hl 2 rfl) ?_
    obtain ⟨r15, r15h, h⟩ := bd_some h
    refine x_backI hW (x_runS (As := [.int a1]) (rest := []) C hW (c_X7_isSort l G (S := up S 0 0 ((0 : Int32))) r15h H.size) cs_RX7_84 hl.1 rfl rfl ⟨by decide, by decide⟩ (Nat.le_of_ble_eq_true rfl) ⟨Nat.zero_le _, Nat.zero_le _⟩ dX7_day_15) (fun H locs hW => ?_)
    refine z_if_eq (tgt := 54) hx hb dX7_day_18 (by decide) (fun b18 => ?_) (fun b18 => ?_)
    · have h := it_t b18 h
      refine lv_bipush (v := (-2)) hx hb dX7_day_54 (by decide) ?_
      obtain rfl := Option.some.inj h
      exact K _ _ _ _ dX7_day_56 hW
    · have h := it_f b18 h
      refine lv_iload hx hb dX7_day_21 (lv_at hl 4 rfl) ?_
      refine lv_iconst (v := 0) hx hb dX7_day_23 (by decide) ?_
      refine lv_bipush (v := 20) hx hb dX7_day_24 (by decide) ?_
      obtain ⟨r26, r26h, h⟩ := bd_some h
      refine x_backI hW (x_runS (As := [.int a3, .int ((0 : Int32)), .int ((20 : Int32))]) (rest := []) C hW (c_X7_within l G (S := up S 0 0 ((0 : Int32))) r26h H.size) cs_RX7_67 hl.1 rfl rfl ⟨by decide, by decide⟩ (Nat.le_of_ble_eq_true rfl) ⟨Nat.zero_le _, Nat.zero_le _⟩ dX7_day_26) (fun H locs hW => ?_)
      refine z_if_eq (tgt := 54) hx hb dX7_day_29 (by decide) (fun b29 => ?_) (fun b29 => ?_)
      · have h := it_t b29 h
        refine lv_bipush (v := (-2)) hx hb dX7_day_54 (by decide) ?_
        obtain rfl := Option.some.inj h
        exact K _ _ _ _ dX7_day_56 hW
      · have h := it_f b29 h
        refine lv_iload hx hb dX7_day_32 (lv_at hl 5 rfl) ?_
        refine lv_iconst (v := 0) hx hb dX7_day_34 (by decide) ?_
        refine lv_iconst (v := 4) hx hb dX7_day_35 (by decide) ?_
        obtain ⟨r36, r36h, h⟩ := bd_some h
        refine x_backI hW (x_runS (As := [.int a4, .int ((0 : Int32)), .int ((4 : Int32))]) (rest := []) C hW (c_X7_within l G (S := up S 0 0 ((0 : Int32))) r36h H.size) cs_RX7_67 hl.1 rfl rfl ⟨by decide, by decide⟩ (Nat.le_of_ble_eq_true rfl) ⟨Nat.zero_le _, Nat.zero_le _⟩ dX7_day_36) (fun H locs hW => ?_)
        refine z_if_ne (tgt := 57) hx hb dX7_day_39 (by decide) (fun b39 => ?_) (fun b39 => ?_)
        · have h := it_t b39 h
          exact w_j_X7_day_57 C  h K _ _ _ hW (lv_sub hl [0, 1, 2, 3, 4, 5] rfl)
        · have h := it_f b39 h
          refine lv_iload hx hb dX7_day_42 (lv_at hl 5 rfl) ?_
          refine lv_bipush (v := 10) hx hb dX7_day_44 (by decide) ?_
          refine lv_bipush (v := 14) hx hb dX7_day_46 (by decide) ?_
          obtain ⟨r48, r48h, h⟩ := bd_some h
          refine x_backI hW (x_runS (As := [.int a4, .int ((10 : Int32)), .int ((14 : Int32))]) (rest := []) C hW (c_X7_within l G (S := up S 0 0 ((0 : Int32))) r48h H.size) cs_RX7_67 hl.1 rfl rfl ⟨by decide, by decide⟩ (Nat.le_of_ble_eq_true rfl) ⟨Nat.zero_le _, Nat.zero_le _⟩ dX7_day_48) (fun H locs hW => ?_)
          refine z_if_ne (tgt := 57) hx hb dX7_day_51 (by decide) (fun b51 => ?_) (fun b51 => ?_)
          · have h := it_t b51 h
            exact w_j_X7_day_57 C  h K _ _ _ hW (lv_sub hl [0, 1, 2, 3, 4, 5] rfl)
          · have h := it_f b51 h
            refine lv_bipush (v := (-2)) hx hb dX7_day_54 (by decide) ?_
            obtain rfl := Option.some.inj h
            exact K _ _ _ _ dX7_day_56 hW
  · have h := it_f b9 h
    refine lv_iconst (v := (-1)) hx hb dX7_day_12 (by decide) ?_
    obtain rfl := Option.some.inj h
    exact K _ _ _ _ dX7_day_13 hW
set_option maxRecDepth 100000 in
theorem c_X7_day (l : Launch) (G : Geo) {S : St} {a0 : Int32} {a1 : Int32} {a2 : Int32} {a3 : Int32} {a4 : Int32} {o : Int32 × St} (h : f_X7_day S a0 a1 a2 a3 a4 = some o) : MI 18 eM G l yX7_day cX7_day 10 (some .int) 4 [.ref (adr G 0), .int a0, .int a1, .int a2, .int a3, .int a4] S o.1 o.2 :=
  mI_of (by decide +kernel) (Nat.le_of_ble_eq_true rfl) (fun p e s m below meth c A H0 Q C K => w_f_X7_day C h K)
def f_X7_digit (S : St) (a0 : Int32) (a1 : Int32) (a2 : Int32) : Option (Int32 × St) :=
  if a0 ≤ (S 0 14) then (some ((-9 : Int32), S)) else (ck (okx (S 0 14) 240) <| bd (f_X7_within (S 3 (ix (S 0 14))) (((48 : Int32)) + a1) (((48 : Int32)) + a2)) fun r25 => if r25 = true then (ck (okx (((up S 0 14 ((S 0 14) + ((1 : Int32)))) 0 14) - ((1 : Int32))) 240) <| some (((up S 0 14 ((S 0 14) + ((1 : Int32)))) 3 (ix (((up S 0 14 ((S 0 14) + ((1 : Int32)))) 0 14) - ((1 : Int32))))) - ((48 : Int32)), up S 0 14 ((S 0 14) + ((1 : Int32))))) else (some ((-9 : Int32), S)))
set_option maxHeartbeats 4000000 in
set_option maxRecDepth 100000 in
theorem w_f_X7_digit {G : Geo} {p : Program} {l : Launch} {e : Env} {s : State} {m : MethodId} {args : Array Value} {below : List Frame} {meth : Method} {c : Code} {A : Nat → Prop} {H0 : Heap} {Q : State → Prop} (C : Cx G RX7 cX7_digit 4 p s m args c) {S : St} {a0 : Int32} {a1 : Int32} {a2 : Int32} {o : Int32 × St} (h : f_X7_digit S a0 a1 a2 = some o) (K : KI 18 eM G A H0 cX7_digit p l e 1 s m args below meth c Q ((o).1) ((o).2)) : ∀ (H : Heap) (locs : List Loc) (ls : Array Slot), HM G A H0 S H locs → lv_has ls 4 [(0, .ref (adr G 0)), (1, .int a0), (2, .int a1), (3, .int a2)] → W p l e (rmK 1) s m args below meth c H locs 0 0 Q (F0 m 0 ls []) := by
  obtain ⟨hx, hb, -⟩ := id C
  intro H locs ls hW hl
  unfold f_X7_digit at h
  refine lv_aload_n hx hb dX7_digit_0 rfl (lv_at hl 0 rfl) ?_
  refine gf_RX7_77 C hW dX7_digit_1 ?_
  refine lv_iload_n hx hb dX7_digit_4 rfl (lv_at hl 1 rfl) ?_
  refine lv_icmp_ge (tgt := 31) hx hb dX7_digit_5 (by decide) (fun b5 => ?_) (fun b5 => ?_)
  · have h := it_t b5 h
    refine lv_bipush (v := (-9)) hx hb dX7_digit_31 (by decide) ?_
    obtain rfl := Option.some.inj h
    exact K _ _ _ _ dX7_digit_33 hW
  · have h := it_f b5 h
    refine lv_aload_n hx hb dX7_digit_8 rfl (lv_at hl 0 rfl) ?_
    refine gf_RX7_16 C hW dX7_digit_9 ?_
    refine lv_aload_n hx hb dX7_digit_12 rfl (lv_at hl 0 rfl) ?_
    refine gf_RX7_77 C hW dX7_digit_13 ?_
    obtain ⟨g16, h⟩ := ck_some h
    refine x_iald C hW (k := 3) (n := 240) (by decide) (fun _ => rfl) g16 dX7_digit_16 ?_
    refine lv_bipush (v := 48) hx hb dX7_digit_17 (by decide) ?_
    refine lv_iload_n hx hb dX7_digit_19 rfl (lv_at hl 2 rfl) ?_
    refine lv_iadd hx hb dX7_digit_20 ?_
    refine lv_bipush (v := 48) hx hb dX7_digit_21 (by decide) ?_
    refine lv_iload_n hx hb dX7_digit_23 rfl (lv_at hl 3 rfl) ?_
    refine lv_iadd hx hb dX7_digit_24 ?_
    obtain ⟨r25, r25h, h⟩ := bd_some h
    refine x_backI hW (x_runS (As := [.int (S 3 (ix (S 0 14))), .int (((48 : Int32)) + a1), .int (((48 : Int32)) + a2)]) (rest := []) C hW (c_X7_within l G (S := S) r25h H.size) cs_RX7_67 hl.1 rfl rfl ⟨by decide, by decide⟩ (Nat.le_of_ble_eq_true rfl) ⟨Nat.zero_le _, Nat.zero_le _⟩ dX7_digit_25) (fun H locs hW => ?_)
    refine z_if_ne (tgt := 34) hx hb dX7_digit_28 (by decide) (fun b28 => ?_) (fun b28 => ?_)
    · have h := it_t b28 h
      refine lv_aload_n hx hb dX7_digit_34 rfl (lv_at hl 0 rfl) ?_
      refine lv_dup hx hb dX7_digit_35 rfl ?_
      refine gf_RX7_77 C hW dX7_digit_36 ?_
      refine lv_iconst (v := 1) hx hb dX7_digit_39 (by decide) ?_
      refine lv_iadd hx hb dX7_digit_40 ?_
      refine pf_RX7_77 C hW dX7_digit_41 (fun H locs hW => ?_)
      refine lv_aload_n hx hb dX7_digit_44 rfl (lv_at hl 0 rfl) ?_
      refine gf_RX7_16 C hW dX7_digit_45 ?_
      refine lv_aload_n hx hb dX7_digit_48 rfl (lv_at hl 0 rfl) ?_
      refine gf_RX7_77 C hW dX7_digit_49 ?_
      refine lv_iconst (v := 1) hx hb dX7_digit_52 (by decide) ?_
      refine lv_isub hx hb dX7_digit_53 ?_
      obtain ⟨g54, h⟩ := ck_some h
      refine x_iald C hW (k := 3) (n := 240) (by decide) (fun _ => rfl) g54 dX7_digit_54 ?_
      refine lv_bipush (v := 48) hx hb dX7_digit_55 (by decide) ?_
      refine lv_isub hx hb dX7_digit_57 ?_
      obtain rfl := Option.some.inj h
      exact K _ _ _ _ dX7_digit_58 hW
    · have h := it_f b28 h
      refine lv_bipush (v := (-9)) hx hb dX7_digit_31 (by decide) ?_
      obtain rfl := Option.some.inj h
      exact K _ _ _ _ dX7_digit_33 hW
set_option maxRecDepth 100000 in
theorem c_X7_digit (l : Launch) (G : Geo) {S : St} {a0 : Int32} {a1 : Int32} {a2 : Int32} {o : Int32 × St} (h : f_X7_digit S a0 a1 a2 = some o) : MI 18 eM G l yX7_digit cX7_digit 4 (some .int) 1 [.ref (adr G 0), .int a0, .int a1, .int a2] S o.1 o.2 :=
  mI_of (by decide +kernel) (Nat.le_of_ble_eq_true rfl) (fun p e s m below meth c A H0 Q C K => w_f_X7_digit C h K)
def f_X7_fault (S : St) : Option (Int32) :=
  some (S 0 0)
set_option maxHeartbeats 4000000 in
set_option maxRecDepth 100000 in
theorem w_f_X7_fault {G : Geo} {p : Program} {l : Launch} {e : Env} {s : State} {m : MethodId} {args : Array Value} {below : List Frame} {meth : Method} {c : Code} {A : Nat → Prop} {H0 : Heap} {Q : State → Prop} (C : Cx G RX7 cX7_fault 1 p s m args c) {S : St}  {o : Int32} (h : f_X7_fault S = some o) (K : KI 18 eM G A H0 cX7_fault p l e 0 s m args below meth c Q o S) : ∀ (H : Heap) (locs : List Loc) (ls : Array Slot), HM G A H0 S H locs → lv_has ls 1 [(0, .ref (adr G 0))] → W p l e (rmK 0) s m args below meth c H locs 0 0 Q (F0 m 0 ls []) := by
  obtain ⟨hx, hb, -⟩ := id C
  intro H locs ls hW hl
  unfold f_X7_fault at h
  refine lv_aload_n hx hb dX7_fault_0 rfl (lv_at hl 0 rfl) ?_
  refine gf_RX7_61 C hW dX7_fault_1 ?_
  obtain rfl := Option.some.inj h
  exact K _ _ _ _ dX7_fault_4 hW
set_option maxRecDepth 100000 in
theorem c_X7_fault (l : Launch) (G : Geo) {S : St}  {o : Int32} (h : f_X7_fault S = some o) : MI 18 eM G l yX7_fault cX7_fault 1 (some .int) 0 [.ref (adr G 0)] S o S :=
  mI_of (by decide +kernel) (Nat.le_of_ble_eq_true rfl) (fun p e s m below meth c A H0 Q C K => w_f_X7_fault C h K)
def j_X7_feel_26 (S : St) (x1 : Int32) (y0 : Int32) : Option (Int32 × St) :=
  bd (f_X7_begins S y0) fun r26 => ck (okx x1 5) <| if (r26 6 (ix x1)) = ((2 : Int32)) then (some ((70 : Int32), r26)) else (some (x1, r26))
set_option maxHeartbeats 4000000 in
set_option maxRecDepth 100000 in
theorem w_j_X7_feel_26 {G : Geo} {p : Program} {l : Launch} {e : Env} {s : State} {m : MethodId} {args : Array Value} {below : List Frame} {meth : Method} {c : Code} {A : Nat → Prop} {H0 : Heap} {Q : State → Prop} (C : Cx G RX7 cX7_feel 2 p s m args c) {S : St} {x1 : Int32} {y0 : Int32} {o : Int32 × St} (h : j_X7_feel_26 S x1 y0 = some o) (K : KI 18 eM G A H0 cX7_feel p l e 1 s m args below meth c Q ((o).1) ((o).2)) : ∀ (H : Heap) (locs : List Loc) (ls : Array Slot), HM G A H0 S H locs → lv_has ls 2 [(0, .ref (adr G 0)), (1, .int x1)] → W p l e (rmK 1) s m args below meth c H locs 0 0 Q (F0 m 26 ls [.int y0, .ref (adr G 0)]) := by
  obtain ⟨hx, hb, -⟩ := id C
  intro H locs ls hW hl
  unfold j_X7_feel_26 at h
  obtain ⟨r26, r26h, h⟩ := bd_some h
  refine x_backV hW (x_runV (As := [.int y0]) (rest := []) C hW (c_X7_begins l G r26h H.size) cv_RX7_209 rv_X7 hl.1 rfl rfl ⟨by decide, by decide⟩ (Nat.le_of_ble_eq_true rfl) ⟨Nat.zero_le _, Nat.zero_le _⟩ dX7_feel_26) (fun H locs hW => ?_)
  refine lv_aload_n hx hb dX7_feel_29 rfl (lv_at hl 0 rfl) ?_
  refine gf_RX7_25 C hW dX7_feel_30 ?_
  refine lv_iload_n hx hb dX7_feel_33 rfl (lv_at hl 1 rfl) ?_
  obtain ⟨g34, h⟩ := ck_some h
  refine x_iald C hW (k := 6) (n := 5) (by decide) (fun _ => rfl) g34 dX7_feel_34 ?_
  refine lv_iconst (v := 2) hx hb dX7_feel_35 (by decide) ?_
  refine lv_icmp_ne (tgt := 44) hx hb dX7_feel_36 (by decide) (fun b36 => ?_) (fun b36 => ?_)
  · have h := it_f b36 h
    refine lv_iload_n hx hb dX7_feel_44 rfl (lv_at hl 1 rfl) ?_
    obtain rfl := Option.some.inj h
    exact K _ _ _ _ dX7_feel_45 hW
  · have h := it_t b36 h
    refine lv_bipush (v := 70) hx hb dX7_feel_39 (by decide) ?_
    refine lv_goto (tgt := 45) hx hb dX7_feel_41 (by decide) ?_
    obtain rfl := Option.some.inj h
    exact K _ _ _ _ dX7_feel_45 hW
def f_X7_feel (S : St) (a0 : Int32) : Option (Int32 × St) :=
  bd (f_X7_isSwitch S a0) fun r2 => if r2 = true then (ck (okx a0 5) <| if (S 6 (ix a0)) = ((2 : Int32)) then (j_X7_feel_26 S a0 ((5 : Int32))) else (j_X7_feel_26 S a0 ((4 : Int32)))) else (some ((-1 : Int32), S))
set_option maxHeartbeats 4000000 in
set_option maxRecDepth 100000 in
theorem w_f_X7_feel {G : Geo} {p : Program} {l : Launch} {e : Env} {s : State} {m : MethodId} {args : Array Value} {below : List Frame} {meth : Method} {c : Code} {A : Nat → Prop} {H0 : Heap} {Q : State → Prop} (C : Cx G RX7 cX7_feel 2 p s m args c) {S : St} {a0 : Int32} {o : Int32 × St} (h : f_X7_feel S a0 = some o) (K : KI 18 eM G A H0 cX7_feel p l e 1 s m args below meth c Q ((o).1) ((o).2)) : ∀ (H : Heap) (locs : List Loc) (ls : Array Slot), HM G A H0 S H locs → lv_has ls 2 [(0, .ref (adr G 0)), (1, .int a0)] → W p l e (rmK 1) s m args below meth c H locs 0 0 Q (F0 m 0 ls []) := by
  obtain ⟨hx, hb, -⟩ := id C
  intro H locs ls hW hl
  unfold f_X7_feel at h
  refine lv_aload_n hx hb dX7_feel_0 rfl (lv_at hl 0 rfl) ?_
  refine lv_iload_n hx hb dX7_feel_1 rfl (lv_at hl 1 rfl) ?_
  obtain ⟨r2, r2h, h⟩ := bd_some h
  refine x_backI hW (x_runV (As := [.int a0]) (rest := []) C hW (c_X7_isSwitch l G r2h H.size) cv_RX7_133 rv_X7 hl.1 rfl rfl ⟨by decide, by decide⟩ (Nat.le_of_ble_eq_true rfl) ⟨Nat.zero_le _, Nat.zero_le _⟩ dX7_feel_2) (fun H locs hW => ?_)
  refine z_if_ne (tgt := 10) hx hb dX7_feel_5 (by decide) (fun b5 => ?_) (fun b5 => ?_)
  · have h := it_t b5 h
    refine lv_aload_n hx hb dX7_feel_10 rfl (lv_at hl 0 rfl) ?_
    refine lv_aload_n hx hb dX7_feel_11 rfl (lv_at hl 0 rfl) ?_
    refine gf_RX7_25 C hW dX7_feel_12 ?_
    refine lv_iload_n hx hb dX7_feel_15 rfl (lv_at hl 1 rfl) ?_
    obtain ⟨g16, h⟩ := ck_some h
    refine x_iald C hW (k := 6) (n := 5) (by decide) (fun _ => rfl) g16 dX7_feel_16 ?_
    refine lv_iconst (v := 2) hx hb dX7_feel_17 (by decide) ?_
    refine lv_icmp_ne (tgt := 25) hx hb dX7_feel_18 (by decide) (fun b18 => ?_) (fun b18 => ?_)
    · have h := it_f b18 h
      refine lv_iconst (v := 4) hx hb dX7_feel_25 (by decide) ?_
      exact w_j_X7_feel_26 C  h K _ _ _ hW (lv_sub hl [0, 1] rfl)
    · have h := it_t b18 h
      refine lv_iconst (v := 5) hx hb dX7_feel_21 (by decide) ?_
      refine lv_goto (tgt := 26) hx hb dX7_feel_22 (by decide) ?_
      exact w_j_X7_feel_26 C  h K _ _ _ hW (lv_sub hl [0, 1] rfl)
  · have h := it_f b5 h
    refine lv_iconst (v := (-1)) hx hb dX7_feel_8 (by decide) ?_
    obtain rfl := Option.some.inj h
    exact K _ _ _ _ dX7_feel_9 hW
set_option maxRecDepth 100000 in
theorem c_X7_feel (l : Launch) (G : Geo) {S : St} {a0 : Int32} {o : Int32 × St} (h : f_X7_feel S a0 = some o) : MI 18 eM G l yX7_feel cX7_feel 2 (some .int) 1 [.ref (adr G 0), .int a0] S o.1 o.2 :=
  mI_of (by decide +kernel) (Nat.le_of_ble_eq_true rfl) (fun p e s m below meth c A H0 Q C K => w_f_X7_feel C h K)
def i_X7_onTo_7 (S : St) (x1 : Int32) (x2 : Int32) (x3 : Int32) (x4 : Int32) : Option ((Int32 × Int32 × Int32) ⊕ (Int32 × Int32 × Int32)) :=
  if (S 0 5) ≤ x4 then (some (.inr (x2, x3, x4))) else (ck (okx (x1 + x4) 240) <| ck (okx x4 5) <| ck (okx x4 5) <| ck (okx x4 5) <| ck (¬ (S 4 (ix x4)) = 0) <| ck (okx x4 5) <| some (.inl (x2 * (S 4 (ix x4)), x3 + ((rem32 (((S 3 (ix (x1 + x4))) + (S 4 (ix x4))) - (S 5 (ix x4))) (S 4 (ix x4))) * x2), x4 + (1 : Int32))))
set_option maxHeartbeats 4000000 in
set_option maxRecDepth 100000 in
theorem w_i_X7_onTo_7 {G : Geo} {p : Program} {l : Launch} {e : Env} {s : State} {m : MethodId} {args : Array Value} {below : List Frame} {meth : Method} {c : Code} {A : Nat → Prop} {H0 : Heap} {Q : State → Prop} (C : Cx G RX7 cX7_onTo 5 p s m args c) {S : St} {x1 : Int32} {x2 : Int32} {x3 : Int32} {x4 : Int32} {o : (Int32 × Int32 × Int32) ⊕ (Int32 × Int32 × Int32)} (h : i_X7_onTo_7 S x1 x2 x3 x4 = some o) (Kn : ∀ q, o = .inl q → ∀ (H : Heap) (locs : List Loc) (ls : Array Slot), HM G A H0 S H locs → lv_has ls 5 [(0, .ref (adr G 0)), (1, .int x1), (2, .int (q.1)), (3, .int (q.2.1)), (4, .int (q.2.2))] → W p l e (rmK 0) s m args below meth c H locs 0 0 Q (F0 m 7 ls [])) (Kt : ∀ q, o = .inr q → ∀ (H : Heap) (locs : List Loc) (ls : Array Slot), HM G A H0 S H locs → lv_has ls 5 [(3, .int (q.2.1))] → W p l e (rmK 0) s m args below meth c H locs 0 0 Q (F0 m 70 ls [])) : ∀ (H : Heap) (locs : List Loc) (ls : Array Slot), HM G A H0 S H locs → lv_has ls 5 [(0, .ref (adr G 0)), (1, .int x1), (2, .int x2), (3, .int x3), (4, .int x4)] → W p l e (rmK 0) s m args below meth c H locs 0 0 Q (F0 m 7 ls []) := by
  obtain ⟨hx, hb, -⟩ := id C
  intro H locs ls hW hl
  unfold i_X7_onTo_7 at h
  refine lv_iload hx hb dX7_onTo_7 (lv_at hl 4 rfl) ?_
  refine lv_aload_n hx hb dX7_onTo_9 rfl (lv_at hl 0 rfl) ?_
  refine gf_RX7_71 C hW dX7_onTo_10 ?_
  refine lv_icmp_ge (tgt := 70) hx hb dX7_onTo_13 (by decide) (fun b13 => ?_) (fun b13 => ?_)
  · have h := it_t b13 h
    obtain rfl := Option.some.inj h
    exact Kt _ rfl _ _ _ hW (lv_sub hl [3] rfl)
  · have h := it_f b13 h
    refine lv_iload_n hx hb dX7_onTo_16 rfl (lv_at hl 3 rfl) ?_
    refine lv_aload_n hx hb dX7_onTo_17 rfl (lv_at hl 0 rfl) ?_
    refine gf_RX7_16 C hW dX7_onTo_18 ?_
    refine lv_iload_n hx hb dX7_onTo_21 rfl (lv_at hl 1 rfl) ?_
    refine lv_iload hx hb dX7_onTo_22 (lv_at hl 4 rfl) ?_
    refine lv_iadd hx hb dX7_onTo_24 ?_
    obtain ⟨g25, h⟩ := ck_some h
    refine x_iald C hW (k := 3) (n := 240) (by decide) (fun _ => rfl) g25 dX7_onTo_25 ?_
    refine lv_aload_n hx hb dX7_onTo_26 rfl (lv_at hl 0 rfl) ?_
    refine gf_RX7_19 C hW dX7_onTo_27 ?_
    refine lv_iload hx hb dX7_onTo_30 (lv_at hl 4 rfl) ?_
    obtain ⟨g32, h⟩ := ck_some h
    refine x_iald C hW (k := 4) (n := 5) (by decide) (fun _ => rfl) g32 dX7_onTo_32 ?_
    refine lv_iadd hx hb dX7_onTo_33 ?_
    refine lv_aload_n hx hb dX7_onTo_34 rfl (lv_at hl 0 rfl) ?_
    refine gf_RX7_22 C hW dX7_onTo_35 ?_
    refine lv_iload hx hb dX7_onTo_38 (lv_at hl 4 rfl) ?_
    obtain ⟨g40, h⟩ := ck_some h
    refine x_iald C hW (k := 5) (n := 5) (by decide) (fun _ => rfl) g40 dX7_onTo_40 ?_
    refine lv_isub hx hb dX7_onTo_41 ?_
    refine lv_aload_n hx hb dX7_onTo_42 rfl (lv_at hl 0 rfl) ?_
    refine gf_RX7_19 C hW dX7_onTo_43 ?_
    refine lv_iload hx hb dX7_onTo_46 (lv_at hl 4 rfl) ?_
    obtain ⟨g48, h⟩ := ck_some h
    refine x_iald C hW (k := 4) (n := 5) (by decide) (fun _ => rfl) g48 dX7_onTo_48 ?_
    obtain ⟨g49, h⟩ := ck_some h
    refine lv_irem hx hb dX7_onTo_49 g49 ?_
    refine lv_iload_n hx hb dX7_onTo_50 rfl (lv_at hl 2 rfl) ?_
    refine lv_imul hx hb dX7_onTo_51 ?_
    refine lv_iadd hx hb dX7_onTo_52 ?_
    refine lv_istore_n (lv' := [(3, .int (x3 + ((rem32 (((S 3 (ix (x1 + x4))) + (S 4 (ix x4))) - (S 5 (ix x4))) (S 4 (ix x4))) * x2))), (0, .ref (adr G 0)), (1, .int x1), (2, .int x2), (4, .int x4)]) hx hb dX7_onTo_53 rfl hl (by decide) rfl (fun ls hl => ?_)
    refine lv_iload_n hx hb dX7_onTo_54 rfl (lv_at hl 3 rfl) ?_
    refine lv_aload_n hx hb dX7_onTo_55 rfl (lv_at hl 1 rfl) ?_
    refine gf_RX7_19 C hW dX7_onTo_56 ?_
    refine lv_iload hx hb dX7_onTo_59 (lv_at hl 4 rfl) ?_
    obtain ⟨g61, h⟩ := ck_some h
    refine x_iald C hW (k := 4) (n := 5) (by decide) (fun _ => rfl) g61 dX7_onTo_61 ?_
    refine lv_imul hx hb dX7_onTo_62 ?_
    refine lv_istore_n (lv' := [(2, .int (x2 * (S 4 (ix x4)))), (3, .int (x3 + ((rem32 (((S 3 (ix (x1 + x4))) + (S 4 (ix x4))) - (S 5 (ix x4))) (S 4 (ix x4))) * x2))), (0, .ref (adr G 0)), (1, .int x1), (4, .int x4)]) hx hb dX7_onTo_63 rfl hl (by decide) rfl (fun ls hl => ?_)
    refine lv_iinc (v := (x4 + (1 : Int32))) (lv' := [(4, .int (x4 + (1 : Int32))), (2, .int (x2 * (S 4 (ix x4)))), (3, .int (x3 + ((rem32 (((S 3 (ix (x1 + x4))) + (S 4 (ix x4))) - (S 5 (ix x4))) (S 4 (ix x4))) * x2))), (0, .ref (adr G 0)), (1, .int x1)]) hx hb dX7_onTo_64 hl (k := 4) rfl rfl (by decide) rfl (fun ls hl => ?_)
    refine lv_goto (tgt := 7) hx hb dX7_onTo_67 (by decide) ?_
    obtain rfl := Option.some.inj h
    exact Kn _ rfl _ _ _ hW (lv_sub hl [3, 4, 1, 2, 0] rfl)
set_option maxHeartbeats 4000000 in
set_option maxRecDepth 100000 in
theorem l_i_X7_onTo_7 {G : Geo} {p : Program} {l : Launch} {e : Env} {s : State} {m : MethodId} {args : Array Value} {below : List Frame} {meth : Method} {c : Code} {A : Nat → Prop} {H0 : Heap} {Q : State → Prop} (C : Cx G RX7 cX7_onTo 5 p s m args c) {S : St} {x1 : Int32} {n : Nat} {q0 : Int32 × Int32 × Int32} {u : Int32 × Int32 × Int32} (hq : iter (fun q : Int32 × Int32 × Int32 => i_X7_onTo_7 S x1 q.1 q.2.1 q.2.2) n q0 = some u) (Kt : (fun q : Int32 × Int32 × Int32 => ∀ (H : Heap) (locs : List Loc) (ls : Array Slot), HM G A H0 S H locs → lv_has ls 5 [(3, .int (q.2.1))] → W p l e (rmK 0) s m args below meth c H locs 0 0 Q (F0 m 70 ls [])) u) : (fun q : Int32 × Int32 × Int32 => ∀ (H : Heap) (locs : List Loc) (ls : Array Slot), HM G A H0 S H locs → lv_has ls 5 [(0, .ref (adr G 0)), (1, .int x1), (2, .int (q.1)), (3, .int (q.2.1)), (4, .int (q.2.2))] → W p l e (rmK 0) s m args below meth c H locs 0 0 Q (F0 m 7 ls [])) q0 :=
  iter_W (P := fun q : Int32 × Int32 × Int32 => ∀ (H : Heap) (locs : List Loc) (ls : Array Slot), HM G A H0 S H locs → lv_has ls 5 [(0, .ref (adr G 0)), (1, .int x1), (2, .int (q.1)), (3, .int (q.2.1)), (4, .int (q.2.2))] → W p l e (rmK 0) s m args below meth c H locs 0 0 Q (F0 m 7 ls [])) (K := fun q : Int32 × Int32 × Int32 => ∀ (H : Heap) (locs : List Loc) (ls : Array Slot), HM G A H0 S H locs → lv_has ls 5 [(3, .int (q.2.1))] → W p l e (rmK 0) s m args below meth c H locs 0 0 Q (F0 m 70 ls [])) (fun q o hit Kn Kt => w_i_X7_onTo_7 C  hit Kn Kt) n q0 u hq Kt
def f_X7_onTo (S : St) (a0 : Int32) : Option (Int32) :=
  bd (iter (fun q => i_X7_onTo_7 S a0 q.1 q.2.1 q.2.2) BIG ((1 : Int32), (0 : Int32), (0 : Int32))) fun q7 => some q7.2.1
set_option maxHeartbeats 4000000 in
set_option maxRecDepth 100000 in
theorem w_f_X7_onTo {G : Geo} {p : Program} {l : Launch} {e : Env} {s : State} {m : MethodId} {args : Array Value} {below : List Frame} {meth : Method} {c : Code} {A : Nat → Prop} {H0 : Heap} {Q : State → Prop} (C : Cx G RX7 cX7_onTo 5 p s m args c) {S : St} {a0 : Int32} {o : Int32} (h : f_X7_onTo S a0 = some o) (K : KI 18 eM G A H0 cX7_onTo p l e 0 s m args below meth c Q o S) : ∀ (H : Heap) (locs : List Loc) (ls : Array Slot), HM G A H0 S H locs → lv_has ls 5 [(0, .ref (adr G 0)), (1, .int a0)] → W p l e (rmK 0) s m args below meth c H locs 0 0 Q (F0 m 0 ls []) := by
  obtain ⟨hx, hb, -⟩ := id C
  intro H locs ls hW hl
  unfold f_X7_onTo at h
  refine lv_iconst (v := 1) hx hb dX7_onTo_0 (by decide) ?_
  refine lv_istore_n (lv' := [(2, .int ((1 : Int32))), (0, .ref (adr G 0)), (1, .int a0)]) hx hb dX7_onTo_1 rfl hl (by decide) rfl (fun ls hl => ?_)
  refine lv_iconst (v := 0) hx hb dX7_onTo_2 (by decide) ?_
  refine lv_istore_n (lv' := [(3, .int ((0 : Int32))), (2, .int ((1 : Int32))), (0, .ref (adr G 0)), (1, .int a0)]) hx hb dX7_onTo_3 rfl hl (by decide) rfl (fun ls hl => ?_)
  refine lv_iconst (v := 0) hx hb dX7_onTo_4 (by decide) ?_
  refine lv_istore (lv' := [(4, .int ((0 : Int32))), (3, .int ((0 : Int32))), (2, .int ((1 : Int32))), (0, .ref (adr G 0)), (1, .int a0)]) hx hb dX7_onTo_5 hl (by decide) rfl (fun ls hl => ?_)
  obtain ⟨q7, q7h, h⟩ := bd_some h
  refine l_i_X7_onTo_7 C  q7h ?_ _ _ _ hW (lv_sub hl [3, 4, 2, 1, 0] rfl)
  intro H locs ls hW hl
  refine lv_iload_n hx hb dX7_onTo_70 rfl (lv_at hl 0 rfl) ?_
  obtain rfl := Option.some.inj h
  exact K _ _ _ _ dX7_onTo_71 hW
set_option maxRecDepth 100000 in
theorem c_X7_onTo (l : Launch) (G : Geo) {S : St} {a0 : Int32} {o : Int32} (h : f_X7_onTo S a0 = some o) : MI 18 eM G l yX7_onTo cX7_onTo 5 (some .int) 0 [.ref (adr G 0), .int a0] S o S :=
  mI_of (by decide +kernel) (Nat.le_of_ble_eq_true rfl) (fun p e s m below meth c A H0 Q C K => w_f_X7_onTo C h K)
def i_X7_fewestOf_53 (S : St) (x2 : Int32) (x3 : Int32) (x5 : Int32) (x4 : Int32) : Option ((Int32) ⊕ (Int32)) :=
  bd (f_X7_movedBy S x3 x4 true) fun r62 => ck (okx r62 3125) <| ck (okx x3 3125) <| if (S 13 (ix r62)) = ((S 13 (ix x3)) - ((1 : Int32))) then (some (.inr x4)) else (some (.inl (x4 + (1 : Int32))))
set_option maxHeartbeats 4000000 in
set_option maxRecDepth 100000 in
theorem w_i_X7_fewestOf_53 {G : Geo} {p : Program} {l : Launch} {e : Env} {s : State} {m : MethodId} {args : Array Value} {below : List Frame} {meth : Method} {c : Code} {A : Nat → Prop} {H0 : Heap} {Q : State → Prop} (C : Cx G RX7 cX7_fewestOf 6 p s m args c) {S : St} {x2 : Int32} {x3 : Int32} {x5 : Int32} {x4 : Int32} {o : (Int32) ⊕ (Int32)} (h : i_X7_fewestOf_53 S x2 x3 x5 x4 = some o) (Kn : ∀ q, o = .inl q → ∀ (H : Heap) (locs : List Loc) (ls : Array Slot), HM G A H0 S H locs → lv_has ls 6 [(0, .ref (adr G 0)), (2, .int x2), (3, .int x3), (4, .int q), (5, .int x5)] → W p l e (rmK 2) s m args below meth c H locs 0 0 Q (F0 m 53 ls [])) (Kt : ∀ q, o = .inr q → ∀ (H : Heap) (locs : List Loc) (ls : Array Slot), HM G A H0 S H locs → lv_has ls 6 [(0, .ref (adr G 0)), (2, .int x2), (3, .int x3), (4, .int q), (5, .int x5)] → W p l e (rmK 2) s m args below meth c H locs 0 0 Q (F0 m 83 ls [])) : ∀ (H : Heap) (locs : List Loc) (ls : Array Slot), HM G A H0 S H locs → lv_has ls 6 [(0, .ref (adr G 0)), (2, .int x2), (3, .int x3), (4, .int x4), (5, .int x5)] → W p l e (rmK 2) s m args below meth c H locs 0 0 Q (F0 m 53 ls []) := by
  obtain ⟨hx, hb, -⟩ := id C
  intro H locs ls hW hl
  unfold i_X7_fewestOf_53 at h
  refine lv_aload_n hx hb dX7_fewestOf_53 rfl (lv_at hl 0 rfl) ?_
  refine gf_RX7_46 C hW dX7_fewestOf_54 ?_
  refine lv_aload_n hx hb dX7_fewestOf_57 rfl (lv_at hl 0 rfl) ?_
  refine lv_iload_n hx hb dX7_fewestOf_58 rfl (lv_at hl 2 rfl) ?_
  refine lv_iload hx hb dX7_fewestOf_59 (lv_at hl 3 rfl) ?_
  refine lv_iconst (v := 1) hx hb dX7_fewestOf_61 (by decide) ?_
  obtain ⟨r62, r62h, h⟩ := bd_some h
  refine x_backI hW (x_runV (As := [.int x3, .int x4, .int (bi true)]) (rest := [.ref (adr G 13)]) C hW (c_X7_movedBy l G r62h H.size) cv_RX7_178 rv_X7 hl.1 rfl rfl ⟨by decide, by decide⟩ (Nat.le_of_ble_eq_true rfl) ⟨Nat.zero_le _, Nat.zero_le _⟩ dX7_fewestOf_62) (fun H locs hW => ?_)
  obtain ⟨g65, h⟩ := ck_some h
  refine x_iald C hW (k := 13) (n := 3125) (by decide) (fun _ => rfl) g65 dX7_fewestOf_65 ?_
  refine lv_aload_n hx hb dX7_fewestOf_66 rfl (lv_at hl 0 rfl) ?_
  refine gf_RX7_46 C hW dX7_fewestOf_67 ?_
  refine lv_iload_n hx hb dX7_fewestOf_70 rfl (lv_at hl 2 rfl) ?_
  obtain ⟨g71, h⟩ := ck_some h
  refine x_iald C hW (k := 13) (n := 3125) (by decide) (fun _ => rfl) g71 dX7_fewestOf_71 ?_
  refine lv_iconst (v := 1) hx hb dX7_fewestOf_72 (by decide) ?_
  refine lv_isub hx hb dX7_fewestOf_73 ?_
  refine lv_icmp_eq (tgt := 83) hx hb dX7_fewestOf_74 (by decide) (fun b74 => ?_) (fun b74 => ?_)
  · have h := it_t b74 h
    obtain rfl := Option.some.inj h
    exact Kt _ rfl _ _ _ hW (lv_sub hl [0, 1, 2, 3, 4] rfl)
  · have h := it_f b74 h
    refine lv_iinc (v := (x4 + (1 : Int32))) (lv' := [(4, .int (x4 + (1 : Int32))), (0, .ref (adr G 0)), (2, .int x2), (3, .int x3), (5, .int x5)]) hx hb dX7_fewestOf_77 hl (k := 3) rfl rfl (by decide) rfl (fun ls hl => ?_)
    refine lv_goto (tgt := 53) hx hb dX7_fewestOf_80 (by decide) ?_
    obtain rfl := Option.some.inj h
    exact Kn _ rfl _ _ _ hW (lv_sub hl [1, 2, 3, 0, 4] rfl)
set_option maxHeartbeats 4000000 in
set_option maxRecDepth 100000 in
theorem l_i_X7_fewestOf_53 {G : Geo} {p : Program} {l : Launch} {e : Env} {s : State} {m : MethodId} {args : Array Value} {below : List Frame} {meth : Method} {c : Code} {A : Nat → Prop} {H0 : Heap} {Q : State → Prop} (C : Cx G RX7 cX7_fewestOf 6 p s m args c) {S : St} {x2 : Int32} {x3 : Int32} {x5 : Int32} {n : Nat} {q0 : Int32} {u : Int32} (hq : iter (fun q : Int32 => i_X7_fewestOf_53 S x2 x3 x5 q) n q0 = some u) (Kt : (fun q : Int32 => ∀ (H : Heap) (locs : List Loc) (ls : Array Slot), HM G A H0 S H locs → lv_has ls 6 [(0, .ref (adr G 0)), (2, .int x2), (3, .int x3), (4, .int q), (5, .int x5)] → W p l e (rmK 2) s m args below meth c H locs 0 0 Q (F0 m 83 ls [])) u) : (fun q : Int32 => ∀ (H : Heap) (locs : List Loc) (ls : Array Slot), HM G A H0 S H locs → lv_has ls 6 [(0, .ref (adr G 0)), (2, .int x2), (3, .int x3), (4, .int q), (5, .int x5)] → W p l e (rmK 2) s m args below meth c H locs 0 0 Q (F0 m 53 ls [])) q0 :=
  iter_W (P := fun q : Int32 => ∀ (H : Heap) (locs : List Loc) (ls : Array Slot), HM G A H0 S H locs → lv_has ls 6 [(0, .ref (adr G 0)), (2, .int x2), (3, .int x3), (4, .int q), (5, .int x5)] → W p l e (rmK 2) s m args below meth c H locs 0 0 Q (F0 m 53 ls [])) (K := fun q : Int32 => ∀ (H : Heap) (locs : List Loc) (ls : Array Slot), HM G A H0 S H locs → lv_has ls 6 [(0, .ref (adr G 0)), (2, .int x2), (3, .int x3), (4, .int q), (5, .int x5)] → W p l e (rmK 2) s m args below meth c H locs 0 0 Q (F0 m 83 ls [])) (fun q o hit Kn Kt => w_i_X7_fewestOf_53 C  hit Kn Kt) n q0 u hq Kt
def i_X7_fewestOf_44 (S : St) (x2 : Int32) (x3 : Int32) (x4 : Int32) (x5 : Int32) : Option ((Int32 × Int32 × Int32) ⊕ (Int32 × Int32 × Int32)) :=
  if x2 < x5 then (some (.inr (x3, x4, x5))) else (bd (iter (fun q => i_X7_fewestOf_53 S x2 x3 x5 q) BIG ((0 : Int32))) fun q53 => bd (f_X7_movedBy S x3 q53 true) fun r88 => some (.inl (r88, q53, x5 + (1 : Int32))))
set_option maxHeartbeats 4000000 in
set_option maxRecDepth 100000 in
theorem w_i_X7_fewestOf_44 {G : Geo} {p : Program} {l : Launch} {e : Env} {s : State} {m : MethodId} {args : Array Value} {below : List Frame} {meth : Method} {c : Code} {A : Nat → Prop} {H0 : Heap} {Q : State → Prop} (C : Cx G RX7 cX7_fewestOf 6 p s m args c) {S : St} {x2 : Int32} {x3 : Int32} {x4 : Int32} {x5 : Int32} {o : (Int32 × Int32 × Int32) ⊕ (Int32 × Int32 × Int32)} (h : i_X7_fewestOf_44 S x2 x3 x4 x5 = some o) (Kn : ∀ q, o = .inl q → ∀ (H : Heap) (locs : List Loc) (ls : Array Slot), HM G A H0 S H locs → lv_has ls 6 [(0, .ref (adr G 0)), (2, .int x2), (3, .int (q.1)), (4, .int (q.2.1)), (5, .int (q.2.2))] → W p l e (rmK 2) s m args below meth c H locs 0 0 Q (F0 m 44 ls [])) (Kt : ∀ q, o = .inr q → ∀ (H : Heap) (locs : List Loc) (ls : Array Slot), HM G A H0 S H locs → lv_has ls 6 [(4, .int (q.2.1))] → W p l e (rmK 2) s m args below meth c H locs 0 0 Q (F0 m 98 ls [])) : ∀ (H : Heap) (locs : List Loc) (ls : Array Slot), HM G A H0 S H locs → lv_has ls 6 [(0, .ref (adr G 0)), (2, .int x2), (3, .int x3), (4, .int x4), (5, .int x5)] → W p l e (rmK 2) s m args below meth c H locs 0 0 Q (F0 m 44 ls []) := by
  obtain ⟨hx, hb, -⟩ := id C
  intro H locs ls hW hl
  unfold i_X7_fewestOf_44 at h
  refine lv_iload hx hb dX7_fewestOf_44 (lv_at hl 4 rfl) ?_
  refine lv_iload_n hx hb dX7_fewestOf_46 rfl (lv_at hl 1 rfl) ?_
  refine lv_icmp_gt (tgt := 98) hx hb dX7_fewestOf_47 (by decide) (fun b47 => ?_) (fun b47 => ?_)
  · have h := it_t b47 h
    obtain rfl := Option.some.inj h
    exact Kt _ rfl _ _ _ hW (lv_sub hl [3] rfl)
  · have h := it_f b47 h
    refine lv_iconst (v := 0) hx hb dX7_fewestOf_50 (by decide) ?_
    refine lv_istore (lv' := [(4, .int ((0 : Int32))), (0, .ref (adr G 0)), (2, .int x2), (3, .int x3), (5, .int x5)]) hx hb dX7_fewestOf_51 hl (by decide) rfl (fun ls hl => ?_)
    obtain ⟨q53, q53h, h⟩ := bd_some h
    refine l_i_X7_fewestOf_53 C  q53h ?_ _ _ _ hW (lv_sub hl [1, 2, 3, 0, 4] rfl)
    intro H locs ls hW hl
    refine lv_aload_n hx hb dX7_fewestOf_83 rfl (lv_at hl 0 rfl) ?_
    refine lv_iload_n hx hb dX7_fewestOf_84 rfl (lv_at hl 2 rfl) ?_
    refine lv_iload hx hb dX7_fewestOf_85 (lv_at hl 3 rfl) ?_
    refine lv_iconst (v := 1) hx hb dX7_fewestOf_87 (by decide) ?_
    obtain ⟨r88, r88h, h⟩ := bd_some h
    refine x_backI hW (x_runV (As := [.int x3, .int q53, .int (bi true)]) (rest := []) C hW (c_X7_movedBy l G r88h H.size) cv_RX7_178 rv_X7 hl.1 rfl rfl ⟨by decide, by decide⟩ (Nat.le_of_ble_eq_true rfl) ⟨Nat.zero_le _, Nat.zero_le _⟩ dX7_fewestOf_88) (fun H locs hW => ?_)
    refine lv_istore_n (lv' := [(3, .int r88), (0, .ref (adr G 0)), (2, .int x2), (4, .int q53), (5, .int x5)]) hx hb dX7_fewestOf_91 rfl hl (by decide) rfl (fun ls hl => ?_)
    refine lv_iinc (v := (x5 + (1 : Int32))) (lv' := [(5, .int (x5 + (1 : Int32))), (3, .int r88), (0, .ref (adr G 0)), (2, .int x2), (4, .int q53)]) hx hb dX7_fewestOf_92 hl (k := 4) rfl rfl (by decide) rfl (fun ls hl => ?_)
    refine lv_goto (tgt := 44) hx hb dX7_fewestOf_95 (by decide) ?_
    obtain rfl := Option.some.inj h
    exact Kn _ rfl _ _ _ hW (lv_sub hl [2, 3, 1, 4, 0] rfl)
set_option maxHeartbeats 4000000 in
set_option maxRecDepth 100000 in
theorem l_i_X7_fewestOf_44 {G : Geo} {p : Program} {l : Launch} {e : Env} {s : State} {m : MethodId} {args : Array Value} {below : List Frame} {meth : Method} {c : Code} {A : Nat → Prop} {H0 : Heap} {Q : State → Prop} (C : Cx G RX7 cX7_fewestOf 6 p s m args c) {S : St} {x2 : Int32} {n : Nat} {q0 : Int32 × Int32 × Int32} {u : Int32 × Int32 × Int32} (hq : iter (fun q : Int32 × Int32 × Int32 => i_X7_fewestOf_44 S x2 q.1 q.2.1 q.2.2) n q0 = some u) (Kt : (fun q : Int32 × Int32 × Int32 => ∀ (H : Heap) (locs : List Loc) (ls : Array Slot), HM G A H0 S H locs → lv_has ls 6 [(4, .int (q.2.1))] → W p l e (rmK 2) s m args below meth c H locs 0 0 Q (F0 m 98 ls [])) u) : (fun q : Int32 × Int32 × Int32 => ∀ (H : Heap) (locs : List Loc) (ls : Array Slot), HM G A H0 S H locs → lv_has ls 6 [(0, .ref (adr G 0)), (2, .int x2), (3, .int (q.1)), (4, .int (q.2.1)), (5, .int (q.2.2))] → W p l e (rmK 2) s m args below meth c H locs 0 0 Q (F0 m 44 ls [])) q0 :=
  iter_W (P := fun q : Int32 × Int32 × Int32 => ∀ (H : Heap) (locs : List Loc) (ls : Array Slot), HM G A H0 S H locs → lv_has ls 6 [(0, .ref (adr G 0)), (2, .int x2), (3, .int (q.1)), (4, .int (q.2.1)), (5, .int (q.2.2))] → W p l e (rmK 2) s m args below meth c H locs 0 0 Q (F0 m 44 ls [])) (K := fun q : Int32 × Int32 × Int32 => ∀ (H : Heap) (locs : List Loc) (ls : Array Slot), HM G A H0 S H locs → lv_has ls 6 [(4, .int (q.2.1))] → W p l e (rmK 2) s m args below meth c H locs 0 0 Q (F0 m 98 ls [])) (fun q o hit Kn Kt => w_i_X7_fewestOf_44 C  hit Kn Kt) n q0 u hq Kt
def f_X7_fewestOf (S : St) (a0 : Int32) (a1 : Int32) : Option (Int32) :=
  if a1 = ((-1 : Int32)) then (ck (okx a0 3125) <| some (S 13 (ix a0))) else (ck (okx a0 3125) <| if (S 13 (ix a0)) = ((-9 : Int32)) then (some ((-9 : Int32))) else (ck (okx a0 3125) <| if a1 < (S 13 (ix a0)) then (bd (iter (fun q => i_X7_fewestOf_44 S a1 q.1 q.2.1 q.2.2) BIG (a0, (0 : Int32), (0 : Int32))) fun q44 => some q44.2.1) else (some ((-9 : Int32)))))
set_option maxHeartbeats 4000000 in
set_option maxRecDepth 100000 in
theorem w_f_X7_fewestOf {G : Geo} {p : Program} {l : Launch} {e : Env} {s : State} {m : MethodId} {args : Array Value} {below : List Frame} {meth : Method} {c : Code} {A : Nat → Prop} {H0 : Heap} {Q : State → Prop} (C : Cx G RX7 cX7_fewestOf 6 p s m args c) {S : St} {a0 : Int32} {a1 : Int32} {o : Int32} (h : f_X7_fewestOf S a0 a1 = some o) (K : KI 18 eM G A H0 cX7_fewestOf p l e 2 s m args below meth c Q o S) : ∀ (H : Heap) (locs : List Loc) (ls : Array Slot), HM G A H0 S H locs → lv_has ls 6 [(0, .ref (adr G 0)), (1, .int a0), (2, .int a1)] → W p l e (rmK 2) s m args below meth c H locs 0 0 Q (F0 m 0 ls []) := by
  obtain ⟨hx, hb, -⟩ := id C
  intro H locs ls hW hl
  unfold f_X7_fewestOf at h
  refine lv_iload_n hx hb dX7_fewestOf_0 rfl (lv_at hl 2 rfl) ?_
  refine lv_iconst (v := (-1)) hx hb dX7_fewestOf_1 (by decide) ?_
  refine lv_icmp_ne (tgt := 12) hx hb dX7_fewestOf_2 (by decide) (fun b2 => ?_) (fun b2 => ?_)
  · have h := it_f b2 h
    refine lv_aload_n hx hb dX7_fewestOf_12 rfl (lv_at hl 0 rfl) ?_
    refine gf_RX7_46 C hW dX7_fewestOf_13 ?_
    refine lv_iload_n hx hb dX7_fewestOf_16 rfl (lv_at hl 1 rfl) ?_
    obtain ⟨g17, h⟩ := ck_some h
    refine x_iald C hW (k := 13) (n := 3125) (by decide) (fun _ => rfl) g17 dX7_fewestOf_17 ?_
    refine lv_bipush (v := (-9)) hx hb dX7_fewestOf_18 (by decide) ?_
    refine lv_icmp_eq (tgt := 33) hx hb dX7_fewestOf_20 (by decide) (fun b20 => ?_) (fun b20 => ?_)
    · have h := it_t b20 h
      refine lv_bipush (v := (-9)) hx hb dX7_fewestOf_33 (by decide) ?_
      obtain rfl := Option.some.inj h
      exact K _ _ _ _ dX7_fewestOf_35 hW
    · have h := it_f b20 h
      refine lv_iload_n hx hb dX7_fewestOf_23 rfl (lv_at hl 2 rfl) ?_
      refine lv_aload_n hx hb dX7_fewestOf_24 rfl (lv_at hl 0 rfl) ?_
      refine gf_RX7_46 C hW dX7_fewestOf_25 ?_
      refine lv_iload_n hx hb dX7_fewestOf_28 rfl (lv_at hl 1 rfl) ?_
      obtain ⟨g29, h⟩ := ck_some h
      refine x_iald C hW (k := 13) (n := 3125) (by decide) (fun _ => rfl) g29 dX7_fewestOf_29 ?_
      refine lv_icmp_lt (tgt := 36) hx hb dX7_fewestOf_30 (by decide) (fun b30 => ?_) (fun b30 => ?_)
      · have h := it_t b30 h
        refine lv_iload_n hx hb dX7_fewestOf_36 rfl (lv_at hl 1 rfl) ?_
        refine lv_istore_n (lv' := [(3, .int a0), (0, .ref (adr G 0)), (1, .int a0), (2, .int a1)]) hx hb dX7_fewestOf_37 rfl hl (by decide) rfl (fun ls hl => ?_)
        refine lv_iconst (v := 0) hx hb dX7_fewestOf_38 (by decide) ?_
        refine lv_istore (lv' := [(4, .int ((0 : Int32))), (3, .int a0), (0, .ref (adr G 0)), (1, .int a0), (2, .int a1)]) hx hb dX7_fewestOf_39 hl (by decide) rfl (fun ls hl => ?_)
        refine lv_iconst (v := 0) hx hb dX7_fewestOf_41 (by decide) ?_
        refine lv_istore (lv' := [(5, .int ((0 : Int32))), (4, .int ((0 : Int32))), (3, .int a0), (0, .ref (adr G 0)), (1, .int a0), (2, .int a1)]) hx hb dX7_fewestOf_42 hl (by decide) rfl (fun ls hl => ?_)
        obtain ⟨q44, q44h, h⟩ := bd_some h
        refine l_i_X7_fewestOf_44 C  q44h ?_ _ _ _ hW (lv_sub hl [3, 5, 2, 1, 0] rfl)
        intro H locs ls hW hl
        refine lv_iload hx hb dX7_fewestOf_98 (lv_at hl 0 rfl) ?_
        obtain rfl := Option.some.inj h
        exact K _ _ _ _ dX7_fewestOf_100 hW
      · have h := it_f b30 h
        refine lv_bipush (v := (-9)) hx hb dX7_fewestOf_33 (by decide) ?_
        obtain rfl := Option.some.inj h
        exact K _ _ _ _ dX7_fewestOf_35 hW
  · have h := it_t b2 h
    refine lv_aload_n hx hb dX7_fewestOf_5 rfl (lv_at hl 0 rfl) ?_
    refine gf_RX7_46 C hW dX7_fewestOf_6 ?_
    refine lv_iload_n hx hb dX7_fewestOf_9 rfl (lv_at hl 1 rfl) ?_
    obtain ⟨g10, h⟩ := ck_some h
    refine x_iald C hW (k := 13) (n := 3125) (by decide) (fun _ => rfl) g10 dX7_fewestOf_10 ?_
    obtain rfl := Option.some.inj h
    exact K _ _ _ _ dX7_fewestOf_11 hW
set_option maxRecDepth 100000 in
theorem c_X7_fewestOf (l : Launch) (G : Geo) {S : St} {a0 : Int32} {a1 : Int32} {o : Int32} (h : f_X7_fewestOf S a0 a1 = some o) : MI 18 eM G l yX7_fewestOf cX7_fewestOf 6 (some .int) 2 [.ref (adr G 0), .int a0, .int a1] S o S :=
  mI_of (by decide +kernel) (Nat.le_of_ble_eq_true rfl) (fun p e s m below meth c A H0 Q C K => w_f_X7_fewestOf C h K)
def i_X7_fewest_81 (S : St) (x4 : Int32) (x6 : Int32) (x7 : Int32) : Option ((Int32) ⊕ ((Int32) ⊕ (Int32 × St))) :=
  if (S 0 5) ≤ x7 then (some (.inr (.inl x7))) else (ck (okx (x6 + x7) 240) <| ck (okx x7 5) <| bd (f_X7_within (S 3 (ix (x6 + x7))) ((0 : Int32)) ((S 4 (ix x7)) - ((1 : Int32)))) fun r110 => if r110 = true then (some (.inl (x7 + (1 : Int32)))) else (some (.inr (.inr ((-2 : Int32), S)))))
set_option maxHeartbeats 4000000 in
set_option maxRecDepth 100000 in
theorem w_i_X7_fewest_81 {G : Geo} {p : Program} {l : Launch} {e : Env} {s : State} {m : MethodId} {args : Array Value} {below : List Frame} {meth : Method} {c : Code} {A : Nat → Prop} {H0 : Heap} {Q : State → Prop} (C : Cx G RX7 cX7_fewest 8 p s m args c) {S : St} {x4 : Int32} {x6 : Int32} {x7 : Int32} {o : (Int32) ⊕ ((Int32) ⊕ (Int32 × St))} (h : i_X7_fewest_81 S x4 x6 x7 = some o) (Kn : ∀ q, o = .inl q → ∀ (H : Heap) (locs : List Loc) (ls : Array Slot), HM G A H0 S H locs → lv_has ls 8 [(0, .ref (adr G 0)), (4, .int x4), (6, .int x6), (7, .int q)] → W p l e (rmK 3) s m args below meth c H locs 0 0 Q (F0 m 81 ls [])) (Kt : ∀ u, o = .inr u → (∀ q, u = .inl q → ∀ (H : Heap) (locs : List Loc) (ls : Array Slot), HM G A H0 S H locs → lv_has ls 8 [(0, .ref (adr G 0)), (4, .int x4), (6, .int x6)] → W p l e (rmK 3) s m args below meth c H locs 0 0 Q (F0 m 125 ls [])) ∧ (∀ r, u = .inr r → KI 18 eM G A H0 cX7_fewest p l e 3 s m args below meth c Q ((r).1) ((r).2))) : ∀ (H : Heap) (locs : List Loc) (ls : Array Slot), HM G A H0 S H locs → lv_has ls 8 [(0, .ref (adr G 0)), (4, .int x4), (6, .int x6), (7, .int x7)] → W p l e (rmK 3) s m args below meth c H locs 0 0 Q (F0 m 81 ls []) := by
  obtain ⟨hx, hb, -⟩ := id C
  intro H locs ls hW hl
  unfold i_X7_fewest_81 at h
  refine lv_iload hx hb dX7_fewest_81 (lv_at hl 3 rfl) ?_
  refine lv_aload_n hx hb dX7_fewest_83 rfl (lv_at hl 0 rfl) ?_
  refine gf_RX7_71 C hW dX7_fewest_84 ?_
  refine lv_icmp_ge (tgt := 125) hx hb dX7_fewest_87 (by decide) (fun b87 => ?_) (fun b87 => ?_)
  · have h := it_t b87 h
    obtain rfl := Option.some.inj h
    exact (Kt _ rfl).1 _ rfl _ _ _ hW (lv_sub hl [0, 1, 2] rfl)
  · have h := it_f b87 h
    refine lv_aload_n hx hb dX7_fewest_90 rfl (lv_at hl 0 rfl) ?_
    refine gf_RX7_16 C hW dX7_fewest_91 ?_
    refine lv_iload hx hb dX7_fewest_94 (lv_at hl 2 rfl) ?_
    refine lv_iload hx hb dX7_fewest_96 (lv_at hl 3 rfl) ?_
    refine lv_iadd hx hb dX7_fewest_98 ?_
    obtain ⟨g99, h⟩ := ck_some h
    refine x_iald C hW (k := 3) (n := 240) (by decide) (fun _ => rfl) g99 dX7_fewest_99 ?_
    refine lv_iconst (v := 0) hx hb dX7_fewest_100 (by decide) ?_
    refine lv_aload_n hx hb dX7_fewest_101 rfl (lv_at hl 0 rfl) ?_
    refine gf_RX7_19 C hW dX7_fewest_102 ?_
    refine lv_iload hx hb dX7_fewest_105 (lv_at hl 3 rfl) ?_
    obtain ⟨g107, h⟩ := ck_some h
    refine x_iald C hW (k := 4) (n := 5) (by decide) (fun _ => rfl) g107 dX7_fewest_107 ?_
    refine lv_iconst (v := 1) hx hb dX7_fewest_108 (by decide) ?_
    refine lv_isub hx hb dX7_fewest_109 ?_
    obtain ⟨r110, r110h, h⟩ := bd_some h
    refine x_backI hW (x_runS (As := [.int (S 3 (ix (x6 + x7))), .int ((0 : Int32)), .int ((S 4 (ix x7)) - ((1 : Int32)))]) (rest := []) C hW (c_X7_within l G (S := S) r110h H.size) cs_RX7_67 hl.1 rfl rfl ⟨by decide, by decide⟩ (Nat.le_of_ble_eq_true rfl) ⟨Nat.zero_le _, Nat.zero_le _⟩ dX7_fewest_110) (fun H locs hW => ?_)
    refine z_if_ne (tgt := 119) hx hb dX7_fewest_113 (by decide) (fun b113 => ?_) (fun b113 => ?_)
    · have h := it_t b113 h
      refine lv_iinc (v := (x7 + (1 : Int32))) (lv' := [(7, .int (x7 + (1 : Int32))), (0, .ref (adr G 0)), (4, .int x4), (6, .int x6)]) hx hb dX7_fewest_119 hl (k := 3) rfl rfl (by decide) rfl (fun ls hl => ?_)
      refine lv_goto (tgt := 81) hx hb dX7_fewest_122 (by decide) ?_
      obtain rfl := Option.some.inj h
      exact Kn _ rfl _ _ _ hW (lv_sub hl [1, 2, 3, 0] rfl)
    · have h := it_f b113 h
      refine lv_bipush (v := (-2)) hx hb dX7_fewest_116 (by decide) ?_
      obtain rfl := Option.some.inj h
      exact (Kt _ rfl).2 _ rfl _ _ _ _ dX7_fewest_118 hW
set_option maxHeartbeats 4000000 in
set_option maxRecDepth 100000 in
theorem l_i_X7_fewest_81 {G : Geo} {p : Program} {l : Launch} {e : Env} {s : State} {m : MethodId} {args : Array Value} {below : List Frame} {meth : Method} {c : Code} {A : Nat → Prop} {H0 : Heap} {Q : State → Prop} (C : Cx G RX7 cX7_fewest 8 p s m args c) {S : St} {x4 : Int32} {x6 : Int32} {n : Nat} {q0 : Int32} {u : (Int32) ⊕ (Int32 × St)} (hq : iter (fun q : Int32 => i_X7_fewest_81 S x4 x6 q) n q0 = some u) (Kt : (∀ q, u = .inl q → ∀ (H : Heap) (locs : List Loc) (ls : Array Slot), HM G A H0 S H locs → lv_has ls 8 [(0, .ref (adr G 0)), (4, .int x4), (6, .int x6)] → W p l e (rmK 3) s m args below meth c H locs 0 0 Q (F0 m 125 ls [])) ∧ (∀ r, u = .inr r → KI 18 eM G A H0 cX7_fewest p l e 3 s m args below meth c Q ((r).1) ((r).2))) : (fun q : Int32 => ∀ (H : Heap) (locs : List Loc) (ls : Array Slot), HM G A H0 S H locs → lv_has ls 8 [(0, .ref (adr G 0)), (4, .int x4), (6, .int x6), (7, .int q)] → W p l e (rmK 3) s m args below meth c H locs 0 0 Q (F0 m 81 ls [])) q0 :=
  iter_W (P := fun q : Int32 => ∀ (H : Heap) (locs : List Loc) (ls : Array Slot), HM G A H0 S H locs → lv_has ls 8 [(0, .ref (adr G 0)), (4, .int x4), (6, .int x6), (7, .int q)] → W p l e (rmK 3) s m args below meth c H locs 0 0 Q (F0 m 81 ls [])) (K := fun u => (∀ q, u = .inl q → ∀ (H : Heap) (locs : List Loc) (ls : Array Slot), HM G A H0 S H locs → lv_has ls 8 [(0, .ref (adr G 0)), (4, .int x4), (6, .int x6)] → W p l e (rmK 3) s m args below meth c H locs 0 0 Q (F0 m 125 ls [])) ∧ (∀ r, u = .inr r → KI 18 eM G A H0 cX7_fewest p l e 3 s m args below meth c Q ((r).1) ((r).2))) (fun q o hit Kn Kt => w_i_X7_fewest_81 C  hit Kn Kt) n q0 u hq Kt
def f_X7_fewest (S : St) (a0 : Int32) (a1 : Int32) (a2 : Int32) (a3 : Int32) : Option (Int32 × St) :=
  if ((up S 0 0 ((0 : Int32))) 0 5) = 0 then (some ((-3 : Int32), up S 0 0 ((0 : Int32)))) else (bd (f_X7_isSheet a0) fun r16 => if r16 = true then (bd (f_X7_isSort a1) fun r25 => if r25 = false then (some ((-2 : Int32), up S 0 0 ((0 : Int32)))) else (bd (f_X7_within a3 ((-1 : Int32)) ((99 : Int32))) fun r36 => if r36 = true then (bd (f_X7_against (up S 0 0 ((0 : Int32))) a0 a1 a2 ((up S 0 0 ((0 : Int32))) 0 5)) fun r53 => if r53 = 0 then (bd (iter (fun q => i_X7_fewest_81 (up S 0 0 ((0 : Int32))) a3 ((((60 : Int32)) * a0) + a2) q) BIG ((0 : Int32))) fun u81 => sm u81 (fun q81 => bd (f_X7_findFar (up S 0 0 ((0 : Int32)))) fun r126 => bd (f_X7_onTo r126 ((((60 : Int32)) * a0) + a2)) fun r133 => bd (f_X7_fewestOf r126 r133 a3) fun r138 => some (r138, r126)) fun w81 => some w81) else (bd (f_X7_fails (up S 0 0 ((0 : Int32))) r53) fun r66 => some (r66.1, r66.2))) else (some ((-2 : Int32), up S 0 0 ((0 : Int32)))))) else (some ((-1 : Int32), up S 0 0 ((0 : Int32)))))
set_option maxHeartbeats 4000000 in
set_option maxRecDepth 100000 in
theorem w_f_X7_fewest {G : Geo} {p : Program} {l : Launch} {e : Env} {s : State} {m : MethodId} {args : Array Value} {below : List Frame} {meth : Method} {c : Code} {A : Nat → Prop} {H0 : Heap} {Q : State → Prop} (C : Cx G RX7 cX7_fewest 8 p s m args c) {S : St} {a0 : Int32} {a1 : Int32} {a2 : Int32} {a3 : Int32} {o : Int32 × St} (h : f_X7_fewest S a0 a1 a2 a3 = some o) (K : KI 18 eM G A H0 cX7_fewest p l e 3 s m args below meth c Q ((o).1) ((o).2)) : ∀ (H : Heap) (locs : List Loc) (ls : Array Slot), HM G A H0 S H locs → lv_has ls 8 [(0, .ref (adr G 0)), (1, .int a0), (2, .int a1), (3, .int a2), (4, .int a3)] → W p l e (rmK 3) s m args below meth c H locs 0 0 Q (F0 m 0 ls []) := by
  obtain ⟨hx, hb, -⟩ := id C
  intro H locs ls hW hl
  unfold f_X7_fewest at h
  refine lv_aload_n hx hb dX7_fewest_0 rfl (lv_at hl 0 rfl) ?_
  refine lv_iconst (v := 0) hx hb dX7_fewest_1 (by decide) ?_
  refine pf_RX7_61 C hW dX7_fewest_2 (fun H locs hW => ?_)
  refine lv_aload_n hx hb dX7_fewest_5 rfl (lv_at hl 0 rfl) ?_
  refine gf_RX7_71 C hW dX7_fewest_6 ?_
  refine lv_if_ne (tgt := 15) hx hb dX7_fewest_9 (by decide) (fun b9 => ?_) (fun b9 => ?_)
  · have h := it_f b9 h
    refine lv_iload_n hx hb dX7_fewest_15 rfl (lv_at hl 1 rfl) ?_
    obtain ⟨r16, r16h, h⟩ := bd_some h
    refine x_backI hW (x_runS (As := [.int a0]) (rest := []) C hW (c_X7_isSheet l G (S := up S 0 0 ((0 : Int32))) r16h H.size) cs_RX7_80 hl.1 rfl rfl ⟨by decide, by decide⟩ (Nat.le_of_ble_eq_true rfl) ⟨Nat.zero_le _, Nat.zero_le _⟩ dX7_fewest_16) (fun H locs hW => ?_)
    refine z_if_ne (tgt := 24) hx hb dX7_fewest_19 (by decide) (fun b19 => ?_) (fun b19 => ?_)
    · have h := it_t b19 h
      refine lv_iload_n hx hb dX7_fewest_24 rfl (lv_at hl 2 rfl) ?_
      obtain ⟨r25, r25h, h⟩ := bd_some h
      refine x_backI hW (x_runS (As := [.int a1]) (rest := []) C hW (c_X7_isSort l G (S := up S 0 0 ((0 : Int32))) r25h H.size) cs_RX7_84 hl.1 rfl rfl ⟨by decide, by decide⟩ (Nat.le_of_ble_eq_true rfl) ⟨Nat.zero_le _, Nat.zero_le _⟩ dX7_fewest_25) (fun H locs hW => ?_)
      refine z_if_eq (tgt := 42) hx hb dX7_fewest_28 (by decide) (fun b28 => ?_) (fun b28 => ?_)
      · have h := it_t b28 h
        refine lv_bipush (v := (-2)) hx hb dX7_fewest_42 (by decide) ?_
        obtain rfl := Option.some.inj h
        exact K _ _ _ _ dX7_fewest_44 hW
      · have h := it_f b28 h
        refine lv_iload hx hb dX7_fewest_31 (lv_at hl 4 rfl) ?_
        refine lv_iconst (v := (-1)) hx hb dX7_fewest_33 (by decide) ?_
        refine lv_bipush (v := 99) hx hb dX7_fewest_34 (by decide) ?_
        obtain ⟨r36, r36h, h⟩ := bd_some h
        refine x_backI hW (x_runS (As := [.int a3, .int ((-1 : Int32)), .int ((99 : Int32))]) (rest := []) C hW (c_X7_within l G (S := up S 0 0 ((0 : Int32))) r36h H.size) cs_RX7_67 hl.1 rfl rfl ⟨by decide, by decide⟩ (Nat.le_of_ble_eq_true rfl) ⟨Nat.zero_le _, Nat.zero_le _⟩ dX7_fewest_36) (fun H locs hW => ?_)
        refine z_if_ne (tgt := 45) hx hb dX7_fewest_39 (by decide) (fun b39 => ?_) (fun b39 => ?_)
        · have h := it_t b39 h
          refine lv_aload_n hx hb dX7_fewest_45 rfl (lv_at hl 0 rfl) ?_
          refine lv_iload_n hx hb dX7_fewest_46 rfl (lv_at hl 1 rfl) ?_
          refine lv_iload_n hx hb dX7_fewest_47 rfl (lv_at hl 2 rfl) ?_
          refine lv_iload_n hx hb dX7_fewest_48 rfl (lv_at hl 3 rfl) ?_
          refine lv_aload_n hx hb dX7_fewest_49 rfl (lv_at hl 0 rfl) ?_
          refine gf_RX7_71 C hW dX7_fewest_50 ?_
          obtain ⟨r53, r53h, h⟩ := bd_some h
          refine x_backI hW (x_runV (As := [.int a0, .int a1, .int a2, .int ((up S 0 0 ((0 : Int32))) 0 5)]) (rest := []) C hW (c_X7_against l G r53h H.size) cv_RX7_87 rv_X7 hl.1 rfl rfl ⟨by decide, by decide⟩ (Nat.le_of_ble_eq_true rfl) ⟨Nat.zero_le _, Nat.zero_le _⟩ dX7_fewest_53) (fun H locs hW => ?_)
          refine lv_istore (lv' := [(5, .int r53), (0, .ref (adr G 0)), (1, .int a0), (2, .int a1), (3, .int a2), (4, .int a3)]) hx hb dX7_fewest_56 hl (by decide) rfl (fun ls hl => ?_)
          refine lv_iload hx hb dX7_fewest_58 (lv_at hl 0 rfl) ?_
          refine lv_if_eq (tgt := 70) hx hb dX7_fewest_60 (by decide) (fun b60 => ?_) (fun b60 => ?_)
          · have h := it_t b60 h
            refine lv_bipush (v := 60) hx hb dX7_fewest_70 (by decide) ?_
            refine lv_iload_n hx hb dX7_fewest_72 rfl (lv_at hl 2 rfl) ?_
            refine lv_imul hx hb dX7_fewest_73 ?_
            refine lv_iload_n hx hb dX7_fewest_74 rfl (lv_at hl 4 rfl) ?_
            refine lv_iadd hx hb dX7_fewest_75 ?_
            refine lv_istore (lv' := [(6, .int ((((60 : Int32)) * a0) + a2)), (5, .int r53), (0, .ref (adr G 0)), (1, .int a0), (2, .int a1), (3, .int a2), (4, .int a3)]) hx hb dX7_fewest_76 hl (by decide) rfl (fun ls hl => ?_)
            refine lv_iconst (v := 0) hx hb dX7_fewest_78 (by decide) ?_
            refine lv_istore (lv' := [(7, .int ((0 : Int32))), (6, .int ((((60 : Int32)) * a0) + a2)), (5, .int r53), (0, .ref (adr G 0)), (1, .int a0), (2, .int a1), (3, .int a2), (4, .int a3)]) hx hb dX7_fewest_79 hl (by decide) rfl (fun ls hl => ?_)
            obtain ⟨u81, u81h, h⟩ := bd_some h
            refine l_i_X7_fewest_81 C  u81h ⟨?_, ?_⟩ _ _ _ hW (lv_sub hl [3, 7, 1, 0] rfl)
            · intro q81 hu; subst hu; have h := sm_l h
              intro H locs ls hW hl
              refine lv_aload_n hx hb dX7_fewest_125 rfl (lv_at hl 0 rfl) ?_
              obtain ⟨r126, r126h, h⟩ := bd_some h
              refine x_backV hW (x_runV (As := []) (rest := []) C hW (c_X7_findFar l G r126h H.size) cv_RX7_182 rv_X7 hl.1 rfl rfl ⟨by decide, by decide⟩ (Nat.le_of_ble_eq_true rfl) ⟨Nat.zero_le _, Nat.zero_le _⟩ dX7_fewest_126) (fun H locs hW => ?_)
              refine lv_aload_n hx hb dX7_fewest_129 rfl (lv_at hl 0 rfl) ?_
              refine lv_aload_n hx hb dX7_fewest_130 rfl (lv_at hl 0 rfl) ?_
              refine lv_iload hx hb dX7_fewest_131 (lv_at hl 2 rfl) ?_
              obtain ⟨r133, r133h, h⟩ := bd_some h
              refine x_backI hW (x_runV (As := [.int ((((60 : Int32)) * a0) + a2)]) (rest := [.ref (adr G 0)]) C hW (c_X7_onTo l G r133h H.size) cv_RX7_185 rv_X7 hl.1 rfl rfl ⟨by decide, by decide⟩ (Nat.le_of_ble_eq_true rfl) ⟨Nat.zero_le _, Nat.zero_le _⟩ dX7_fewest_133) (fun H locs hW => ?_)
              refine lv_iload hx hb dX7_fewest_136 (lv_at hl 1 rfl) ?_
              obtain ⟨r138, r138h, h⟩ := bd_some h
              refine x_backI hW (x_runV (As := [.int r133, .int a3]) (rest := []) C hW (c_X7_fewestOf l G r138h H.size) cv_RX7_188 rv_X7 hl.1 rfl rfl ⟨by decide, by decide⟩ (Nat.le_of_ble_eq_true rfl) ⟨Nat.zero_le _, Nat.zero_le _⟩ dX7_fewest_138) (fun H locs hW => ?_)
              obtain rfl := Option.some.inj h
              exact K _ _ _ _ dX7_fewest_141 hW
            · intro w81 hu; subst hu; have h := sm_r h
              obtain rfl := Option.some.inj h
              exact K
          · have h := it_f b60 h
            refine lv_aload_n hx hb dX7_fewest_63 rfl (lv_at hl 1 rfl) ?_
            refine lv_iload hx hb dX7_fewest_64 (lv_at hl 0 rfl) ?_
            obtain ⟨r66, r66h, h⟩ := bd_some h
            refine x_backI hW (x_runV (As := [.int r53]) (rest := []) C hW (c_X7_fails l G r66h H.size) cv_RX7_91 rv_X7 hl.1 rfl rfl ⟨by decide, by decide⟩ (Nat.le_of_ble_eq_true rfl) ⟨Nat.zero_le _, Nat.zero_le _⟩ dX7_fewest_66) (fun H locs hW => ?_)
            obtain rfl := Option.some.inj h
            exact K _ _ _ _ dX7_fewest_69 hW
        · have h := it_f b39 h
          refine lv_bipush (v := (-2)) hx hb dX7_fewest_42 (by decide) ?_
          obtain rfl := Option.some.inj h
          exact K _ _ _ _ dX7_fewest_44 hW
    · have h := it_f b19 h
      refine lv_iconst (v := (-1)) hx hb dX7_fewest_22 (by decide) ?_
      obtain rfl := Option.some.inj h
      exact K _ _ _ _ dX7_fewest_23 hW
  · have h := it_t b9 h
    refine lv_bipush (v := (-3)) hx hb dX7_fewest_12 (by decide) ?_
    obtain rfl := Option.some.inj h
    exact K _ _ _ _ dX7_fewest_14 hW
set_option maxRecDepth 100000 in
theorem c_X7_fewest (l : Launch) (G : Geo) {S : St} {a0 : Int32} {a1 : Int32} {a2 : Int32} {a3 : Int32} {o : Int32 × St} (h : f_X7_fewest S a0 a1 a2 a3 = some o) : MI 18 eM G l yX7_fewest cX7_fewest 8 (some .int) 3 [.ref (adr G 0), .int a0, .int a1, .int a2, .int a3] S o.1 o.2 :=
  mI_of (by decide +kernel) (Nat.le_of_ble_eq_true rfl) (fun p e s m below meth c A H0 Q C K => w_f_X7_fewest C h K)
def i_X7_findMany_7 (S : St) (x1 : Int32) (x2 : Int32) (x3 : Int32) : Option ((St × Int32) ⊕ (St × Int32)) :=
  if x2 ≤ x3 then (some (.inr (S, x3))) else (ck (okx x3 3125) <| some (.inl (up S 13 (ix x3) ((-9 : Int32)), x3 + (1 : Int32))))
set_option maxHeartbeats 4000000 in
set_option maxRecDepth 100000 in
theorem w_i_X7_findMany_7 {G : Geo} {p : Program} {l : Launch} {e : Env} {s : State} {m : MethodId} {args : Array Value} {below : List Frame} {meth : Method} {c : Code} {A : Nat → Prop} {H0 : Heap} {Q : State → Prop} (C : Cx G RX7 cX7_findMany 8 p s m args c) {S : St} {x1 : Int32} {x2 : Int32} {x3 : Int32} {o : (St × Int32) ⊕ (St × Int32)} (h : i_X7_findMany_7 S x1 x2 x3 = some o) (Kn : ∀ q, o = .inl q → ∀ (H : Heap) (locs : List Loc) (ls : Array Slot), HM G A H0 q.1 H locs → lv_has ls 8 [(0, .ref (adr G 0)), (1, .int x1), (2, .int x2), (3, .int (q.2))] → W p l e (rmK 2) s m args below meth c H locs 0 0 Q (F0 m 7 ls [])) (Kt : ∀ q, o = .inr q → ∀ (H : Heap) (locs : List Loc) (ls : Array Slot), HM G A H0 q.1 H locs → lv_has ls 8 [(0, .ref (adr G 0)), (1, .int x1)] → W p l e (rmK 2) s m args below meth c H locs 0 0 Q (F0 m 26 ls [])) : ∀ (H : Heap) (locs : List Loc) (ls : Array Slot), HM G A H0 S H locs → lv_has ls 8 [(0, .ref (adr G 0)), (1, .int x1), (2, .int x2), (3, .int x3)] → W p l e (rmK 2) s m args below meth c H locs 0 0 Q (F0 m 7 ls []) := by
  obtain ⟨hx, hb, -⟩ := id C
  intro H locs ls hW hl
  unfold i_X7_findMany_7 at h
  refine lv_iload_n hx hb dX7_findMany_7 rfl (lv_at hl 3 rfl) ?_
  refine lv_iload_n hx hb dX7_findMany_8 rfl (lv_at hl 2 rfl) ?_
  refine lv_icmp_ge (tgt := 26) hx hb dX7_findMany_9 (by decide) (fun b9 => ?_) (fun b9 => ?_)
  · have h := it_t b9 h
    obtain rfl := Option.some.inj h
    exact Kt _ rfl _ _ _ hW (lv_sub hl [0, 1] rfl)
  · have h := it_f b9 h
    refine lv_aload_n hx hb dX7_findMany_12 rfl (lv_at hl 0 rfl) ?_
    refine gf_RX7_46 C hW dX7_findMany_13 ?_
    refine lv_iload_n hx hb dX7_findMany_16 rfl (lv_at hl 3 rfl) ?_
    refine lv_bipush (v := (-9)) hx hb dX7_findMany_17 (by decide) ?_
    obtain ⟨g19, h⟩ := ck_some h
    refine x_iast C hW (k := 13) (n := 3125) (by decide) (fun _ => rfl) g19 dX7_findMany_19 (fun H locs hW => ?_)
    refine lv_iinc (v := (x3 + (1 : Int32))) (lv' := [(3, .int (x3 + (1 : Int32))), (0, .ref (adr G 0)), (1, .int x1), (2, .int x2)]) hx hb dX7_findMany_20 hl (k := 3) rfl rfl (by decide) rfl (fun ls hl => ?_)
    refine lv_goto (tgt := 7) hx hb dX7_findMany_23 (by decide) ?_
    obtain rfl := Option.some.inj h
    exact Kn _ rfl _ _ _ hW (lv_sub hl [1, 2, 3, 0] rfl)
set_option maxHeartbeats 4000000 in
set_option maxRecDepth 100000 in
theorem l_i_X7_findMany_7 {G : Geo} {p : Program} {l : Launch} {e : Env} {s : State} {m : MethodId} {args : Array Value} {below : List Frame} {meth : Method} {c : Code} {A : Nat → Prop} {H0 : Heap} {Q : State → Prop} (C : Cx G RX7 cX7_findMany 8 p s m args c) {x1 : Int32} {x2 : Int32} {n : Nat} {q0 : St × Int32} {u : St × Int32} (hq : iter (fun q : St × Int32 => i_X7_findMany_7 q.1 x1 x2 q.2) n q0 = some u) (Kt : (fun q : St × Int32 => ∀ (H : Heap) (locs : List Loc) (ls : Array Slot), HM G A H0 q.1 H locs → lv_has ls 8 [(0, .ref (adr G 0)), (1, .int x1)] → W p l e (rmK 2) s m args below meth c H locs 0 0 Q (F0 m 26 ls [])) u) : (fun q : St × Int32 => ∀ (H : Heap) (locs : List Loc) (ls : Array Slot), HM G A H0 q.1 H locs → lv_has ls 8 [(0, .ref (adr G 0)), (1, .int x1), (2, .int x2), (3, .int (q.2))] → W p l e (rmK 2) s m args below meth c H locs 0 0 Q (F0 m 7 ls [])) q0 :=
  iter_W (P := fun q : St × Int32 => ∀ (H : Heap) (locs : List Loc) (ls : Array Slot), HM G A H0 q.1 H locs → lv_has ls 8 [(0, .ref (adr G 0)), (1, .int x1), (2, .int x2), (3, .int (q.2))] → W p l e (rmK 2) s m args below meth c H locs 0 0 Q (F0 m 7 ls [])) (K := fun q : St × Int32 => ∀ (H : Heap) (locs : List Loc) (ls : Array Slot), HM G A H0 q.1 H locs → lv_has ls 8 [(0, .ref (adr G 0)), (1, .int x1)] → W p l e (rmK 2) s m args below meth c H locs 0 0 Q (F0 m 26 ls [])) (fun q o hit Kn Kt => w_i_X7_findMany_7 C  hit Kn Kt) n q0 u hq Kt
def i_X7_findMany_92 (S : St) (x1 : Int32) (x3 : Int32) (x4 : Int32) (x5 : Int32) (x6 : Int32) (x7 : Int32) : Option ((St × Int32) ⊕ (St × Int32)) :=
  if x5 ≤ x7 then (some (.inr (S, x7))) else (ck (okx ((x3 - x5) + x7) 3125) <| bd (f_X7_movedBy S (S 14 (ix ((x3 - x5) + x7))) x4 false) fun r123 => ck (okx (x3 + x7) 3125) <| ck (okx (x3 + x7) 3125) <| ck (okx ((up S 14 (ix (x3 + x7)) r123) 14 (ix (x3 + x7))) 3125) <| some (.inl (up (up S 14 (ix (x3 + x7)) r123) 13 (ix ((up S 14 (ix (x3 + x7)) r123) 14 (ix (x3 + x7)))) ((0 : Int32)), x7 + (1 : Int32))))
set_option maxHeartbeats 4000000 in
set_option maxRecDepth 100000 in
theorem w_i_X7_findMany_92 {G : Geo} {p : Program} {l : Launch} {e : Env} {s : State} {m : MethodId} {args : Array Value} {below : List Frame} {meth : Method} {c : Code} {A : Nat → Prop} {H0 : Heap} {Q : State → Prop} (C : Cx G RX7 cX7_findMany 8 p s m args c) {S : St} {x1 : Int32} {x3 : Int32} {x4 : Int32} {x5 : Int32} {x6 : Int32} {x7 : Int32} {o : (St × Int32) ⊕ (St × Int32)} (h : i_X7_findMany_92 S x1 x3 x4 x5 x6 x7 = some o) (Kn : ∀ q, o = .inl q → ∀ (H : Heap) (locs : List Loc) (ls : Array Slot), HM G A H0 q.1 H locs → lv_has ls 8 [(0, .ref (adr G 0)), (1, .int x1), (3, .int x3), (4, .int x4), (5, .int x5), (6, .int x6), (7, .int (q.2))] → W p l e (rmK 2) s m args below meth c H locs 0 0 Q (F0 m 92 ls [])) (Kt : ∀ q, o = .inr q → ∀ (H : Heap) (locs : List Loc) (ls : Array Slot), HM G A H0 q.1 H locs → lv_has ls 8 [(0, .ref (adr G 0)), (1, .int x1), (3, .int x3), (4, .int x4), (5, .int x5), (6, .int x6)] → W p l e (rmK 2) s m args below meth c H locs 0 0 Q (F0 m 148 ls [])) : ∀ (H : Heap) (locs : List Loc) (ls : Array Slot), HM G A H0 S H locs → lv_has ls 8 [(0, .ref (adr G 0)), (1, .int x1), (3, .int x3), (4, .int x4), (5, .int x5), (6, .int x6), (7, .int x7)] → W p l e (rmK 2) s m args below meth c H locs 0 0 Q (F0 m 92 ls []) := by
  obtain ⟨hx, hb, -⟩ := id C
  intro H locs ls hW hl
  unfold i_X7_findMany_92 at h
  refine lv_iload hx hb dX7_findMany_92 (lv_at hl 6 rfl) ?_
  refine lv_iload hx hb dX7_findMany_94 (lv_at hl 4 rfl) ?_
  refine lv_icmp_ge (tgt := 148) hx hb dX7_findMany_96 (by decide) (fun b96 => ?_) (fun b96 => ?_)
  · have h := it_t b96 h
    obtain rfl := Option.some.inj h
    exact Kt _ rfl _ _ _ hW (lv_sub hl [0, 1, 2, 3, 4, 5] rfl)
  · have h := it_f b96 h
    refine lv_aload_n hx hb dX7_findMany_99 rfl (lv_at hl 0 rfl) ?_
    refine gf_RX7_49 C hW dX7_findMany_100 ?_
    refine lv_iload_n hx hb dX7_findMany_103 rfl (lv_at hl 2 rfl) ?_
    refine lv_iload hx hb dX7_findMany_104 (lv_at hl 6 rfl) ?_
    refine lv_iadd hx hb dX7_findMany_106 ?_
    refine lv_aload_n hx hb dX7_findMany_107 rfl (lv_at hl 0 rfl) ?_
    refine lv_aload_n hx hb dX7_findMany_108 rfl (lv_at hl 0 rfl) ?_
    refine gf_RX7_49 C hW dX7_findMany_109 ?_
    refine lv_iload_n hx hb dX7_findMany_112 rfl (lv_at hl 2 rfl) ?_
    refine lv_iload hx hb dX7_findMany_113 (lv_at hl 4 rfl) ?_
    refine lv_isub hx hb dX7_findMany_115 ?_
    refine lv_iload hx hb dX7_findMany_116 (lv_at hl 6 rfl) ?_
    refine lv_iadd hx hb dX7_findMany_118 ?_
    obtain ⟨g119, h⟩ := ck_some h
    refine x_iald C hW (k := 14) (n := 3125) (by decide) (fun _ => rfl) g119 dX7_findMany_119 ?_
    refine lv_iload hx hb dX7_findMany_120 (lv_at hl 3 rfl) ?_
    refine lv_iconst (v := 0) hx hb dX7_findMany_122 (by decide) ?_
    obtain ⟨r123, r123h, h⟩ := bd_some h
    refine x_backI hW (x_runV (As := [.int (S 14 (ix ((x3 - x5) + x7))), .int x4, .int (bi false)]) (rest := [.int (x3 + x7), .ref (adr G 14)]) C hW (c_X7_movedBy l G r123h H.size) cv_RX7_178 rv_X7 hl.1 rfl rfl ⟨by decide, by decide⟩ (Nat.le_of_ble_eq_true rfl) ⟨Nat.zero_le _, Nat.zero_le _⟩ dX7_findMany_123) (fun H locs hW => ?_)
    obtain ⟨g126, h⟩ := ck_some h
    refine x_iast C hW (k := 14) (n := 3125) (by decide) (fun _ => rfl) g126 dX7_findMany_126 (fun H locs hW => ?_)
    refine lv_aload_n hx hb dX7_findMany_127 rfl (lv_at hl 0 rfl) ?_
    refine gf_RX7_46 C hW dX7_findMany_128 ?_
    refine lv_aload_n hx hb dX7_findMany_131 rfl (lv_at hl 0 rfl) ?_
    refine gf_RX7_49 C hW dX7_findMany_132 ?_
    refine lv_iload_n hx hb dX7_findMany_135 rfl (lv_at hl 2 rfl) ?_
    refine lv_iload hx hb dX7_findMany_136 (lv_at hl 6 rfl) ?_
    refine lv_iadd hx hb dX7_findMany_138 ?_
    obtain ⟨g139, h⟩ := ck_some h
    refine x_iald C hW (k := 14) (n := 3125) (by decide) (fun _ => rfl) g139 dX7_findMany_139 ?_
    refine lv_iconst (v := 0) hx hb dX7_findMany_140 (by decide) ?_
    obtain ⟨g141, h⟩ := ck_some h
    refine x_iast C hW (k := 13) (n := 3125) (by decide) (fun _ => rfl) g141 dX7_findMany_141 (fun H locs hW => ?_)
    refine lv_iinc (v := (x7 + (1 : Int32))) (lv' := [(7, .int (x7 + (1 : Int32))), (0, .ref (adr G 0)), (1, .int x1), (3, .int x3), (4, .int x4), (5, .int x5), (6, .int x6)]) hx hb dX7_findMany_142 hl (k := 6) rfl rfl (by decide) rfl (fun ls hl => ?_)
    refine lv_goto (tgt := 92) hx hb dX7_findMany_145 (by decide) ?_
    obtain rfl := Option.some.inj h
    exact Kn _ rfl _ _ _ hW (lv_sub hl [1, 2, 3, 4, 5, 6, 0] rfl)
set_option maxHeartbeats 4000000 in
set_option maxRecDepth 100000 in
theorem l_i_X7_findMany_92 {G : Geo} {p : Program} {l : Launch} {e : Env} {s : State} {m : MethodId} {args : Array Value} {below : List Frame} {meth : Method} {c : Code} {A : Nat → Prop} {H0 : Heap} {Q : State → Prop} (C : Cx G RX7 cX7_findMany 8 p s m args c) {x1 : Int32} {x3 : Int32} {x4 : Int32} {x5 : Int32} {x6 : Int32} {n : Nat} {q0 : St × Int32} {u : St × Int32} (hq : iter (fun q : St × Int32 => i_X7_findMany_92 q.1 x1 x3 x4 x5 x6 q.2) n q0 = some u) (Kt : (fun q : St × Int32 => ∀ (H : Heap) (locs : List Loc) (ls : Array Slot), HM G A H0 q.1 H locs → lv_has ls 8 [(0, .ref (adr G 0)), (1, .int x1), (3, .int x3), (4, .int x4), (5, .int x5), (6, .int x6)] → W p l e (rmK 2) s m args below meth c H locs 0 0 Q (F0 m 148 ls [])) u) : (fun q : St × Int32 => ∀ (H : Heap) (locs : List Loc) (ls : Array Slot), HM G A H0 q.1 H locs → lv_has ls 8 [(0, .ref (adr G 0)), (1, .int x1), (3, .int x3), (4, .int x4), (5, .int x5), (6, .int x6), (7, .int (q.2))] → W p l e (rmK 2) s m args below meth c H locs 0 0 Q (F0 m 92 ls [])) q0 :=
  iter_W (P := fun q : St × Int32 => ∀ (H : Heap) (locs : List Loc) (ls : Array Slot), HM G A H0 q.1 H locs → lv_has ls 8 [(0, .ref (adr G 0)), (1, .int x1), (3, .int x3), (4, .int x4), (5, .int x5), (6, .int x6), (7, .int (q.2))] → W p l e (rmK 2) s m args below meth c H locs 0 0 Q (F0 m 92 ls [])) (K := fun q : St × Int32 => ∀ (H : Heap) (locs : List Loc) (ls : Array Slot), HM G A H0 q.1 H locs → lv_has ls 8 [(0, .ref (adr G 0)), (1, .int x1), (3, .int x3), (4, .int x4), (5, .int x5), (6, .int x6)] → W p l e (rmK 2) s m args below meth c H locs 0 0 Q (F0 m 148 ls [])) (fun q o hit Kn Kt => w_i_X7_findMany_92 C  hit Kn Kt) n q0 u hq Kt
def i_X7_findMany_77 (S : St) (x1 : Int32) (x4 : Int32) (x5 : Int32) (x3 : Int32) (x6 : Int32) : Option ((St × Int32 × Int32) ⊕ (St × Int32 × Int32)) :=
  ck (okx x6 3125) <| if (S 13 (ix x6)) = ((-9 : Int32)) then (bd (iter (fun q => i_X7_findMany_92 q.1 x1 x3 x4 x5 x6 q.2) BIG (S, (0 : Int32))) fun q92 => bd (f_X7_movedBy q92.1 x6 x4 false) fun r159 => some (.inl (q92.1, x3 + x5, r159))) else (some (.inr (S, x3, x6)))
set_option maxHeartbeats 4000000 in
set_option maxRecDepth 100000 in
theorem w_i_X7_findMany_77 {G : Geo} {p : Program} {l : Launch} {e : Env} {s : State} {m : MethodId} {args : Array Value} {below : List Frame} {meth : Method} {c : Code} {A : Nat → Prop} {H0 : Heap} {Q : State → Prop} (C : Cx G RX7 cX7_findMany 8 p s m args c) {S : St} {x1 : Int32} {x4 : Int32} {x5 : Int32} {x3 : Int32} {x6 : Int32} {o : (St × Int32 × Int32) ⊕ (St × Int32 × Int32)} (h : i_X7_findMany_77 S x1 x4 x5 x3 x6 = some o) (Kn : ∀ q, o = .inl q → ∀ (H : Heap) (locs : List Loc) (ls : Array Slot), HM G A H0 q.1 H locs → lv_has ls 8 [(0, .ref (adr G 0)), (1, .int x1), (3, .int (q.2.1)), (4, .int x4), (5, .int x5), (6, .int (q.2.2))] → W p l e (rmK 2) s m args below meth c H locs 0 0 Q (F0 m 77 ls [])) (Kt : ∀ q, o = .inr q → ∀ (H : Heap) (locs : List Loc) (ls : Array Slot), HM G A H0 q.1 H locs → lv_has ls 8 [(0, .ref (adr G 0)), (1, .int x1), (3, .int (q.2.1)), (4, .int x4)] → W p l e (rmK 2) s m args below meth c H locs 0 0 Q (F0 m 167 ls [])) : ∀ (H : Heap) (locs : List Loc) (ls : Array Slot), HM G A H0 S H locs → lv_has ls 8 [(0, .ref (adr G 0)), (1, .int x1), (3, .int x3), (4, .int x4), (5, .int x5), (6, .int x6)] → W p l e (rmK 2) s m args below meth c H locs 0 0 Q (F0 m 77 ls []) := by
  obtain ⟨hx, hb, -⟩ := id C
  intro H locs ls hW hl
  unfold i_X7_findMany_77 at h
  refine lv_aload_n hx hb dX7_findMany_77 rfl (lv_at hl 0 rfl) ?_
  refine gf_RX7_46 C hW dX7_findMany_78 ?_
  refine lv_iload hx hb dX7_findMany_81 (lv_at hl 5 rfl) ?_
  obtain ⟨g83, h⟩ := ck_some h
  refine x_iald C hW (k := 13) (n := 3125) (by decide) (fun _ => rfl) g83 dX7_findMany_83 ?_
  refine lv_bipush (v := (-9)) hx hb dX7_findMany_84 (by decide) ?_
  refine lv_icmp_ne (tgt := 167) hx hb dX7_findMany_86 (by decide) (fun b86 => ?_) (fun b86 => ?_)
  · have h := it_f b86 h
    obtain rfl := Option.some.inj h
    exact Kt _ rfl _ _ _ hW (lv_sub hl [0, 1, 2, 3] rfl)
  · have h := it_t b86 h
    refine lv_iconst (v := 0) hx hb dX7_findMany_89 (by decide) ?_
    refine lv_istore (lv' := [(7, .int ((0 : Int32))), (0, .ref (adr G 0)), (1, .int x1), (3, .int x3), (4, .int x4), (5, .int x5), (6, .int x6)]) hx hb dX7_findMany_90 hl (by decide) rfl (fun ls hl => ?_)
    obtain ⟨q92, q92h, h⟩ := bd_some h
    refine l_i_X7_findMany_92 C  q92h ?_ _ _ _ hW (lv_sub hl [1, 2, 3, 4, 5, 6, 0] rfl)
    intro H locs ls hW hl
    refine lv_iload_n hx hb dX7_findMany_148 rfl (lv_at hl 2 rfl) ?_
    refine lv_iload hx hb dX7_findMany_149 (lv_at hl 4 rfl) ?_
    refine lv_iadd hx hb dX7_findMany_151 ?_
    refine lv_istore_n (lv' := [(3, .int (x3 + x5)), (0, .ref (adr G 0)), (1, .int x1), (4, .int x4), (5, .int x5), (6, .int x6)]) hx hb dX7_findMany_152 rfl hl (by decide) rfl (fun ls hl => ?_)
    refine lv_aload_n hx hb dX7_findMany_153 rfl (lv_at hl 1 rfl) ?_
    refine lv_iload hx hb dX7_findMany_154 (lv_at hl 5 rfl) ?_
    refine lv_iload hx hb dX7_findMany_156 (lv_at hl 3 rfl) ?_
    refine lv_iconst (v := 0) hx hb dX7_findMany_158 (by decide) ?_
    obtain ⟨r159, r159h, h⟩ := bd_some h
    refine x_backI hW (x_runV (As := [.int x6, .int x4, .int (bi false)]) (rest := []) C hW (c_X7_movedBy l G r159h H.size) cv_RX7_178 rv_X7 hl.1 rfl rfl ⟨by decide, by decide⟩ (Nat.le_of_ble_eq_true rfl) ⟨Nat.zero_le _, Nat.zero_le _⟩ dX7_findMany_159) (fun H locs hW => ?_)
    refine lv_istore (lv' := [(6, .int r159), (3, .int (x3 + x5)), (0, .ref (adr G 0)), (1, .int x1), (4, .int x4), (5, .int x5)]) hx hb dX7_findMany_162 hl (by decide) rfl (fun ls hl => ?_)
    refine lv_goto (tgt := 77) hx hb dX7_findMany_164 (by decide) ?_
    obtain rfl := Option.some.inj h
    exact Kn _ rfl _ _ _ hW (lv_sub hl [2, 3, 1, 4, 5, 0] rfl)
set_option maxHeartbeats 4000000 in
set_option maxRecDepth 100000 in
theorem l_i_X7_findMany_77 {G : Geo} {p : Program} {l : Launch} {e : Env} {s : State} {m : MethodId} {args : Array Value} {below : List Frame} {meth : Method} {c : Code} {A : Nat → Prop} {H0 : Heap} {Q : State → Prop} (C : Cx G RX7 cX7_findMany 8 p s m args c) {x1 : Int32} {x4 : Int32} {x5 : Int32} {n : Nat} {q0 : St × Int32 × Int32} {u : St × Int32 × Int32} (hq : iter (fun q : St × Int32 × Int32 => i_X7_findMany_77 q.1 x1 x4 x5 q.2.1 q.2.2) n q0 = some u) (Kt : (fun q : St × Int32 × Int32 => ∀ (H : Heap) (locs : List Loc) (ls : Array Slot), HM G A H0 q.1 H locs → lv_has ls 8 [(0, .ref (adr G 0)), (1, .int x1), (3, .int (q.2.1)), (4, .int x4)] → W p l e (rmK 2) s m args below meth c H locs 0 0 Q (F0 m 167 ls [])) u) : (fun q : St × Int32 × Int32 => ∀ (H : Heap) (locs : List Loc) (ls : Array Slot), HM G A H0 q.1 H locs → lv_has ls 8 [(0, .ref (adr G 0)), (1, .int x1), (3, .int (q.2.1)), (4, .int x4), (5, .int x5), (6, .int (q.2.2))] → W p l e (rmK 2) s m args below meth c H locs 0 0 Q (F0 m 77 ls [])) q0 :=
  iter_W (P := fun q : St × Int32 × Int32 => ∀ (H : Heap) (locs : List Loc) (ls : Array Slot), HM G A H0 q.1 H locs → lv_has ls 8 [(0, .ref (adr G 0)), (1, .int x1), (3, .int (q.2.1)), (4, .int x4), (5, .int x5), (6, .int (q.2.2))] → W p l e (rmK 2) s m args below meth c H locs 0 0 Q (F0 m 77 ls [])) (K := fun q : St × Int32 × Int32 => ∀ (H : Heap) (locs : List Loc) (ls : Array Slot), HM G A H0 q.1 H locs → lv_has ls 8 [(0, .ref (adr G 0)), (1, .int x1), (3, .int (q.2.1)), (4, .int x4)] → W p l e (rmK 2) s m args below meth c H locs 0 0 Q (F0 m 167 ls [])) (fun q o hit Kn Kt => w_i_X7_findMany_77 C  hit Kn Kt) n q0 u hq Kt
def i_X7_findMany_45 (S : St) (x1 : Int32) (x3 : Int32) (x4 : Int32) : Option ((St × Int32 × Int32) ⊕ (St × Int32 × Int32)) :=
  if (S 0 6) ≤ x4 then (some (.inr (S, x3, x4))) else (if x4 = x1 then (bd (iter (fun q => i_X7_findMany_77 q.1 x1 x4 x3 q.2.1 q.2.2) BIG (S, x3, (0 : Int32))) fun q77 => some (.inl (q77.1, q77.2.1, x4 + (1 : Int32)))) else (bd (f_X7_movedBy S ((0 : Int32)) x4 false) fun r72 => bd (iter (fun q => i_X7_findMany_77 q.1 x1 x4 x3 q.2.1 q.2.2) BIG (S, x3, r72)) fun q77 => some (.inl (q77.1, q77.2.1, x4 + (1 : Int32)))))
set_option maxHeartbeats 4000000 in
set_option maxRecDepth 100000 in
theorem w_i_X7_findMany_45 {G : Geo} {p : Program} {l : Launch} {e : Env} {s : State} {m : MethodId} {args : Array Value} {below : List Frame} {meth : Method} {c : Code} {A : Nat → Prop} {H0 : Heap} {Q : State → Prop} (C : Cx G RX7 cX7_findMany 8 p s m args c) {S : St} {x1 : Int32} {x3 : Int32} {x4 : Int32} {o : (St × Int32 × Int32) ⊕ (St × Int32 × Int32)} (h : i_X7_findMany_45 S x1 x3 x4 = some o) (Kn : ∀ q, o = .inl q → ∀ (H : Heap) (locs : List Loc) (ls : Array Slot), HM G A H0 q.1 H locs → lv_has ls 8 [(0, .ref (adr G 0)), (1, .int x1), (3, .int (q.2.1)), (4, .int (q.2.2))] → W p l e (rmK 2) s m args below meth c H locs 0 0 Q (F0 m 45 ls [])) (Kt : ∀ q, o = .inr q → ∀ (H : Heap) (locs : List Loc) (ls : Array Slot), HM G A H0 q.1 H locs → lv_has ls 8 [(3, .int (q.2.1))] → W p l e (rmK 2) s m args below meth c H locs 0 0 Q (F0 m 173 ls [])) : ∀ (H : Heap) (locs : List Loc) (ls : Array Slot), HM G A H0 S H locs → lv_has ls 8 [(0, .ref (adr G 0)), (1, .int x1), (3, .int x3), (4, .int x4)] → W p l e (rmK 2) s m args below meth c H locs 0 0 Q (F0 m 45 ls []) := by
  obtain ⟨hx, hb, -⟩ := id C
  intro H locs ls hW hl
  unfold i_X7_findMany_45 at h
  refine lv_iload hx hb dX7_findMany_45 (lv_at hl 3 rfl) ?_
  refine lv_aload_n hx hb dX7_findMany_47 rfl (lv_at hl 0 rfl) ?_
  refine gf_RX7_74 C hW dX7_findMany_48 ?_
  refine lv_icmp_ge (tgt := 173) hx hb dX7_findMany_51 (by decide) (fun b51 => ?_) (fun b51 => ?_)
  · have h := it_t b51 h
    obtain rfl := Option.some.inj h
    exact Kt _ rfl _ _ _ hW (lv_sub hl [2] rfl)
  · have h := it_f b51 h
    refine lv_iload_n hx hb dX7_findMany_54 rfl (lv_at hl 2 rfl) ?_
    refine lv_istore (lv' := [(5, .int x3), (0, .ref (adr G 0)), (1, .int x1), (3, .int x3), (4, .int x4)]) hx hb dX7_findMany_55 hl (by decide) rfl (fun ls hl => ?_)
    refine lv_iload hx hb dX7_findMany_57 (lv_at hl 4 rfl) ?_
    refine lv_iload_n hx hb dX7_findMany_59 rfl (lv_at hl 2 rfl) ?_
    refine lv_icmp_ne (tgt := 67) hx hb dX7_findMany_60 (by decide) (fun b60 => ?_) (fun b60 => ?_)
    · have h := it_f b60 h
      refine lv_aload_n hx hb dX7_findMany_67 rfl (lv_at hl 1 rfl) ?_
      refine lv_iconst (v := 0) hx hb dX7_findMany_68 (by decide) ?_
      refine lv_iload hx hb dX7_findMany_69 (lv_at hl 4 rfl) ?_
      refine lv_iconst (v := 0) hx hb dX7_findMany_71 (by decide) ?_
      obtain ⟨r72, r72h, h⟩ := bd_some h
      refine x_backI hW (x_runV (As := [.int ((0 : Int32)), .int x4, .int (bi false)]) (rest := []) C hW (c_X7_movedBy l G r72h H.size) cv_RX7_178 rv_X7 hl.1 rfl rfl ⟨by decide, by decide⟩ (Nat.le_of_ble_eq_true rfl) ⟨Nat.zero_le _, Nat.zero_le _⟩ dX7_findMany_72) (fun H locs hW => ?_)
      refine lv_istore (lv' := [(6, .int r72), (5, .int x3), (0, .ref (adr G 0)), (1, .int x1), (3, .int x3), (4, .int x4)]) hx hb dX7_findMany_75 hl (by decide) rfl (fun ls hl => ?_)
      obtain ⟨q77, q77h, h⟩ := bd_some h
      refine l_i_X7_findMany_77 C  q77h ?_ _ _ _ hW (lv_sub hl [2, 3, 4, 5, 1, 0] rfl)
      intro H locs ls hW hl
      refine lv_iinc (v := (x4 + (1 : Int32))) (lv' := [(4, .int (x4 + (1 : Int32))), (0, .ref (adr G 0)), (1, .int x1), (3, .int (q77.2.1))]) hx hb dX7_findMany_167 hl (k := 3) rfl rfl (by decide) rfl (fun ls hl => ?_)
      refine lv_goto (tgt := 45) hx hb dX7_findMany_170 (by decide) ?_
      obtain rfl := Option.some.inj h
      exact Kn _ rfl _ _ _ hW (lv_sub hl [1, 2, 3, 0] rfl)
    · have h := it_t b60 h
      refine lv_iconst (v := 0) hx hb dX7_findMany_63 (by decide) ?_
      refine lv_goto (tgt := 75) hx hb dX7_findMany_64 (by decide) ?_
      refine lv_istore (lv' := [(6, .int ((0 : Int32))), (5, .int x3), (0, .ref (adr G 0)), (1, .int x1), (3, .int x3), (4, .int x4)]) hx hb dX7_findMany_75 hl (by decide) rfl (fun ls hl => ?_)
      obtain ⟨q77, q77h, h⟩ := bd_some h
      refine l_i_X7_findMany_77 C  q77h ?_ _ _ _ hW (lv_sub hl [2, 3, 4, 5, 1, 0] rfl)
      intro H locs ls hW hl
      refine lv_iinc (v := (x4 + (1 : Int32))) (lv' := [(4, .int (x4 + (1 : Int32))), (0, .ref (adr G 0)), (1, .int x1), (3, .int (q77.2.1))]) hx hb dX7_findMany_167 hl (k := 3) rfl rfl (by decide) rfl (fun ls hl => ?_)
      refine lv_goto (tgt := 45) hx hb dX7_findMany_170 (by decide) ?_
      obtain rfl := Option.some.inj h
      exact Kn _ rfl _ _ _ hW (lv_sub hl [1, 2, 3, 0] rfl)
set_option maxHeartbeats 4000000 in
set_option maxRecDepth 100000 in
theorem l_i_X7_findMany_45 {G : Geo} {p : Program} {l : Launch} {e : Env} {s : State} {m : MethodId} {args : Array Value} {below : List Frame} {meth : Method} {c : Code} {A : Nat → Prop} {H0 : Heap} {Q : State → Prop} (C : Cx G RX7 cX7_findMany 8 p s m args c) {x1 : Int32} {n : Nat} {q0 : St × Int32 × Int32} {u : St × Int32 × Int32} (hq : iter (fun q : St × Int32 × Int32 => i_X7_findMany_45 q.1 x1 q.2.1 q.2.2) n q0 = some u) (Kt : (fun q : St × Int32 × Int32 => ∀ (H : Heap) (locs : List Loc) (ls : Array Slot), HM G A H0 q.1 H locs → lv_has ls 8 [(3, .int (q.2.1))] → W p l e (rmK 2) s m args below meth c H locs 0 0 Q (F0 m 173 ls [])) u) : (fun q : St × Int32 × Int32 => ∀ (H : Heap) (locs : List Loc) (ls : Array Slot), HM G A H0 q.1 H locs → lv_has ls 8 [(0, .ref (adr G 0)), (1, .int x1), (3, .int (q.2.1)), (4, .int (q.2.2))] → W p l e (rmK 2) s m args below meth c H locs 0 0 Q (F0 m 45 ls [])) q0 :=
  iter_W (P := fun q : St × Int32 × Int32 => ∀ (H : Heap) (locs : List Loc) (ls : Array Slot), HM G A H0 q.1 H locs → lv_has ls 8 [(0, .ref (adr G 0)), (1, .int x1), (3, .int (q.2.1)), (4, .int (q.2.2))] → W p l e (rmK 2) s m args below meth c H locs 0 0 Q (F0 m 45 ls [])) (K := fun q : St × Int32 × Int32 => ∀ (H : Heap) (locs : List Loc) (ls : Array Slot), HM G A H0 q.1 H locs → lv_has ls 8 [(3, .int (q.2.1))] → W p l e (rmK 2) s m args below meth c H locs 0 0 Q (F0 m 173 ls [])) (fun q o hit Kn Kt => w_i_X7_findMany_45 C  hit Kn Kt) n q0 u hq Kt
def f_X7_findMany (S : St) (a0 : Int32) : Option (Int32 × St) :=
  bd (f_X7_manyOf S) fun r1 => bd (iter (fun q => i_X7_findMany_7 q.1 a0 r1 q.2) BIG (S, (0 : Int32))) fun q7 => ck (okx ((0 : Int32)) 3125) <| ck (okx ((0 : Int32)) 3125) <| bd (iter (fun q => i_X7_findMany_45 q.1 a0 q.2.1 q.2.2) BIG (up (up q7.1 13 (ix ((0 : Int32))) ((0 : Int32))) 14 (ix ((0 : Int32))) ((0 : Int32)), (1 : Int32), (0 : Int32))) fun q45 => some (q45.2.1, q45.1)
set_option maxHeartbeats 4000000 in
set_option maxRecDepth 100000 in
theorem w_f_X7_findMany {G : Geo} {p : Program} {l : Launch} {e : Env} {s : State} {m : MethodId} {args : Array Value} {below : List Frame} {meth : Method} {c : Code} {A : Nat → Prop} {H0 : Heap} {Q : State → Prop} (C : Cx G RX7 cX7_findMany 8 p s m args c) {S : St} {a0 : Int32} {o : Int32 × St} (h : f_X7_findMany S a0 = some o) (K : KI 18 eM G A H0 cX7_findMany p l e 2 s m args below meth c Q ((o).1) ((o).2)) : ∀ (H : Heap) (locs : List Loc) (ls : Array Slot), HM G A H0 S H locs → lv_has ls 8 [(0, .ref (adr G 0)), (1, .int a0)] → W p l e (rmK 2) s m args below meth c H locs 0 0 Q (F0 m 0 ls []) := by
  obtain ⟨hx, hb, -⟩ := id C
  intro H locs ls hW hl
  unfold f_X7_findMany at h
  refine lv_aload_n hx hb dX7_findMany_0 rfl (lv_at hl 0 rfl) ?_
  obtain ⟨r1, r1h, h⟩ := bd_some h
  refine x_backI hW (x_runV (As := []) (rest := []) C hW (c_X7_manyOf l G r1h H.size) cv_RX7_175 rv_X7 hl.1 rfl rfl ⟨by decide, by decide⟩ (Nat.le_of_ble_eq_true rfl) ⟨Nat.zero_le _, Nat.zero_le _⟩ dX7_findMany_1) (fun H locs hW => ?_)
  refine lv_istore_n (lv' := [(2, .int r1), (0, .ref (adr G 0)), (1, .int a0)]) hx hb dX7_findMany_4 rfl hl (by decide) rfl (fun ls hl => ?_)
  refine lv_iconst (v := 0) hx hb dX7_findMany_5 (by decide) ?_
  refine lv_istore_n (lv' := [(3, .int ((0 : Int32))), (2, .int r1), (0, .ref (adr G 0)), (1, .int a0)]) hx hb dX7_findMany_6 rfl hl (by decide) rfl (fun ls hl => ?_)
  obtain ⟨q7, q7h, h⟩ := bd_some h
  refine l_i_X7_findMany_7 C  q7h ?_ _ _ _ hW (lv_sub hl [2, 3, 1, 0] rfl)
  intro H locs ls hW hl
  refine lv_aload_n hx hb dX7_findMany_26 rfl (lv_at hl 0 rfl) ?_
  refine gf_RX7_46 C hW dX7_findMany_27 ?_
  refine lv_iconst (v := 0) hx hb dX7_findMany_30 (by decide) ?_
  refine lv_iconst (v := 0) hx hb dX7_findMany_31 (by decide) ?_
  obtain ⟨g32, h⟩ := ck_some h
  refine x_iast C hW (k := 13) (n := 3125) (by decide) (fun _ => rfl) g32 dX7_findMany_32 (fun H locs hW => ?_)
  refine lv_aload_n hx hb dX7_findMany_33 rfl (lv_at hl 0 rfl) ?_
  refine gf_RX7_49 C hW dX7_findMany_34 ?_
  refine lv_iconst (v := 0) hx hb dX7_findMany_37 (by decide) ?_
  refine lv_iconst (v := 0) hx hb dX7_findMany_38 (by decide) ?_
  obtain ⟨g39, h⟩ := ck_some h
  refine x_iast C hW (k := 14) (n := 3125) (by decide) (fun _ => rfl) g39 dX7_findMany_39 (fun H locs hW => ?_)
  refine lv_iconst (v := 1) hx hb dX7_findMany_40 (by decide) ?_
  refine lv_istore_n (lv' := [(3, .int ((1 : Int32))), (0, .ref (adr G 0)), (1, .int a0)]) hx hb dX7_findMany_41 rfl hl (by decide) rfl (fun ls hl => ?_)
  refine lv_iconst (v := 0) hx hb dX7_findMany_42 (by decide) ?_
  refine lv_istore (lv' := [(4, .int ((0 : Int32))), (3, .int ((1 : Int32))), (0, .ref (adr G 0)), (1, .int a0)]) hx hb dX7_findMany_43 hl (by decide) rfl (fun ls hl => ?_)
  obtain ⟨q45, q45h, h⟩ := bd_some h
  refine l_i_X7_findMany_45 C  q45h ?_ _ _ _ hW (lv_sub hl [2, 3, 1, 0] rfl)
  intro H locs ls hW hl
  refine lv_iload_n hx hb dX7_findMany_173 rfl (lv_at hl 0 rfl) ?_
  obtain rfl := Option.some.inj h
  exact K _ _ _ _ dX7_findMany_174 hW
set_option maxRecDepth 100000 in
theorem c_X7_findMany (l : Launch) (G : Geo) {S : St} {a0 : Int32} {o : Int32 × St} (h : f_X7_findMany S a0 = some o) : MI 18 eM G l yX7_findMany cX7_findMany 8 (some .int) 2 [.ref (adr G 0), .int a0] S o.1 o.2 :=
  mI_of (by decide +kernel) (Nat.le_of_ble_eq_true rfl) (fun p e s m below meth c A H0 Q C K => w_f_X7_findMany C h K)
