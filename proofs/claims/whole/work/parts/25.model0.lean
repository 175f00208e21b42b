def j_X7_against_23 (S : St) (x1 : Int32) (x3 : Int32) (x4 : Int32) : Option (Int32) :=
  ck (okx x1 4) <| if (S 1 (ix x1)) = ((-9 : Int32)) then (some ((1 : Int32))) else (if 0 ≤ x4 then (if x3 < 0 then (some ((3 : Int32))) else (ck (okx x1 4) <| if (S 2 (ix x1)) < x3 then (some ((3 : Int32))) else (ck (okx x1 4) <| if x4 ≤ ((S 2 (ix x1)) - x3) then (some ((0 : Int32))) else (some ((3 : Int32)))))) else (some ((4 : Int32))))
set_option maxHeartbeats 4000000 in
set_option maxRecDepth 100000 in
theorem w_j_X7_against_23 {G : Geo} {p : Program} {l : Launch} {e : Env} {s : State} {m : MethodId} {args : Array Value} {below : List Frame} {meth : Method} {c : Code} {A : Nat → Prop} {H0 : Heap} {Q : State → Prop} (C : Cx G RX7 cX7_against 5 p s m args c) {S : St} {x1 : Int32} {x3 : Int32} {x4 : Int32} {o : Int32} (h : j_X7_against_23 S x1 x3 x4 = some o) (K : KI 18 eM G A H0 cX7_against p l e 0 s m args below meth c Q o S) : ∀ (H : Heap) (locs : List Loc) (ls : Array Slot), HM G A H0 S H locs → lv_has ls 5 [(0, .ref (adr G 0)), (1, .int x1), (3, .int x3), (4, .int x4)] → W p l e (rmK 0) s m args below meth c H locs 0 0 Q (F0 m 23 ls []) := by
  obtain ⟨hx, hb, -⟩ := id C
  intro H locs ls hW hl
  unfold j_X7_against_23 at h
  refine lv_aload_n hx hb dX7_against_23 rfl (lv_at hl 0 rfl) ?_
  refine gf_RX7_9 C hW dX7_against_24 ?_
  refine lv_iload_n hx hb dX7_against_27 rfl (lv_at hl 1 rfl) ?_
  obtain ⟨g28, h⟩ := ck_some h
  refine x_iald C hW (k := 1) (n := 4) (by decide) (fun _ => rfl) g28 dX7_against_28 ?_
  refine lv_bipush (v := (-9)) hx hb dX7_against_29 (by decide) ?_
  refine lv_icmp_ne (tgt := 36) hx hb dX7_against_31 (by decide) (fun b31 => ?_) (fun b31 => ?_)
  · have h := it_f b31 h
    refine lv_iload hx hb dX7_against_36 (lv_at hl 3 rfl) ?_
    refine lv_if_ge (tgt := 43) hx hb dX7_against_38 (by decide) (fun b38 => ?_) (fun b38 => ?_)
    · have h := it_t b38 h
      refine lv_iload_n hx hb dX7_against_43 rfl (lv_at hl 2 rfl) ?_
      refine lv_if_lt (tgt := 70) hx hb dX7_against_44 (by decide) (fun b44 => ?_) (fun b44 => ?_)
      · have h := it_t b44 h
        refine lv_iconst (v := 3) hx hb dX7_against_70 (by decide) ?_
        refine lv_goto (tgt := 75) hx hb dX7_against_71 (by decide) ?_
        obtain rfl := Option.some.inj h
        exact K _ _ _ _ dX7_against_75 hW
      · have h := it_f b44 h
        refine lv_iload_n hx hb dX7_against_47 rfl (lv_at hl 2 rfl) ?_
        refine lv_aload_n hx hb dX7_against_48 rfl (lv_at hl 0 rfl) ?_
        refine gf_RX7_13 C hW dX7_against_49 ?_
        refine lv_iload_n hx hb dX7_against_52 rfl (lv_at hl 1 rfl) ?_
        obtain ⟨g53, h⟩ := ck_some h
        refine x_iald C hW (k := 2) (n := 4) (by decide) (fun _ => rfl) g53 dX7_against_53 ?_
        refine lv_icmp_gt (tgt := 70) hx hb dX7_against_54 (by decide) (fun b54 => ?_) (fun b54 => ?_)
        · have h := it_t b54 h
          refine lv_iconst (v := 3) hx hb dX7_against_70 (by decide) ?_
          refine lv_goto (tgt := 75) hx hb dX7_against_71 (by decide) ?_
          obtain rfl := Option.some.inj h
          exact K _ _ _ _ dX7_against_75 hW
        · have h := it_f b54 h
          refine lv_iload hx hb dX7_against_57 (lv_at hl 3 rfl) ?_
          refine lv_aload_n hx hb dX7_against_59 rfl (lv_at hl 0 rfl) ?_
          refine gf_RX7_13 C hW dX7_against_60 ?_
          refine lv_iload_n hx hb dX7_against_63 rfl (lv_at hl 1 rfl) ?_
          obtain ⟨g64, h⟩ := ck_some h
          refine x_iald C hW (k := 2) (n := 4) (by decide) (fun _ => rfl) g64 dX7_against_64 ?_
          refine lv_iload_n hx hb dX7_against_65 rfl (lv_at hl 2 rfl) ?_
          refine lv_isub hx hb dX7_against_66 ?_
          refine lv_icmp_le (tgt := 74) hx hb dX7_against_67 (by decide) (fun b67 => ?_) (fun b67 => ?_)
          · have h := it_t b67 h
            refine lv_iconst (v := 0) hx hb dX7_against_74 (by decide) ?_
            obtain rfl := Option.some.inj h
            exact K _ _ _ _ dX7_against_75 hW
          · have h := it_f b67 h
            refine lv_iconst (v := 3) hx hb dX7_against_70 (by decide) ?_
            refine lv_goto (tgt := 75) hx hb dX7_against_71 (by decide) ?_
            obtain rfl := Option.some.inj h
            exact K _ _ _ _ dX7_against_75 hW
    · have h := it_f b38 h
      refine lv_iconst (v := 4) hx hb dX7_against_41 (by decide) ?_
      obtain rfl := Option.some.inj h
      exact K _ _ _ _ dX7_against_42 hW
  · have h := it_t b31 h
    refine lv_iconst (v := 1) hx hb dX7_against_34 (by decide) ?_
    obtain rfl := Option.some.inj h
    exact K _ _ _ _ dX7_against_35 hW
def f_X7_against (S : St) (a0 : Int32) (a1 : Int32) (a2 : Int32) (a3 : Int32) : Option (Int32) :=
  ck (okx a0 4) <| if (S 1 (ix a0)) = ((-9 : Int32)) then (j_X7_against_23 S a0 a2 a3) else (ck (okx a0 4) <| if (S 1 (ix a0)) = a1 then (j_X7_against_23 S a0 a2 a3) else (some ((2 : Int32))))
set_option maxHeartbeats 4000000 in
set_option maxRecDepth 100000 in
theorem w_f_X7_against {G : Geo} {p : Program} {l : Launch} {e : Env} {s : State} {m : MethodId} {args : Array Value} {below : List Frame} {meth : Method} {c : Code} {A : Nat → Prop} {H0 : Heap} {Q : State → Prop} (C : Cx G RX7 cX7_against 5 p s m args c) {S : St} {a0 : Int32} {a1 : Int32} {a2 : Int32} {a3 : Int32} {o : Int32} (h : f_X7_against S a0 a1 a2 a3 = some o) (K : KI 18 eM G A H0 cX7_against p l e 0 s m args below meth c Q o S) : ∀ (H : Heap) (locs : List Loc) (ls : Array Slot), HM G A H0 S H locs → lv_has ls 5 [(0, .ref (adr G 0)), (1, .int a0), (2, .int a1), (3, .int a2), (4, .int a3)] → W p l e (rmK 0) s m args below meth c H locs 0 0 Q (F0 m 0 ls []) := by
  obtain ⟨hx, hb, -⟩ := id C
  intro H locs ls hW hl
  unfold f_X7_against at h
  refine lv_aload_n hx hb dX7_against_0 rfl (lv_at hl 0 rfl) ?_
  refine gf_RX7_9 C hW dX7_against_1 ?_
  refine lv_iload_n hx hb dX7_against_4 rfl (lv_at hl 1 rfl) ?_
  obtain ⟨g5, h⟩ := ck_some h
  refine x_iald C hW (k := 1) (n := 4) (by decide) (fun _ => rfl) g5 dX7_against_5 ?_
  refine lv_bipush (v := (-9)) hx hb dX7_against_6 (by decide) ?_
  refine lv_icmp_eq (tgt := 23) hx hb dX7_against_8 (by decide) (fun b8 => ?_) (fun b8 => ?_)
  · have h := it_t b8 h
    exact w_j_X7_against_23 C  h K _ _ _ hW (lv_sub hl [0, 1, 3, 4] rfl)
  · have h := it_f b8 h
    refine lv_aload_n hx hb dX7_against_11 rfl (lv_at hl 0 rfl) ?_
    refine gf_RX7_9 C hW dX7_against_12 ?_
    refine lv_iload_n hx hb dX7_against_15 rfl (lv_at hl 1 rfl) ?_
    obtain ⟨g16, h⟩ := ck_some h
    refine x_iald C hW (k := 1) (n := 4) (by decide) (fun _ => rfl) g16 dX7_against_16 ?_
    refine lv_iload_n hx hb dX7_against_17 rfl (lv_at hl 2 rfl) ?_
    refine lv_icmp_eq (tgt := 23) hx hb dX7_against_18 (by decide) (fun b18 => ?_) (fun b18 => ?_)
    · have h := it_t b18 h
      exact w_j_X7_against_23 C  h K _ _ _ hW (lv_sub hl [0, 1, 3, 4] rfl)
    · have h := it_f b18 h
      refine lv_iconst (v := 2) hx hb dX7_against_21 (by decide) ?_
      obtain rfl := Option.some.inj h
      exact K _ _ _ _ dX7_against_22 hW
set_option maxRecDepth 100000 in
theorem c_X7_against (l : Launch) (G : Geo) {S : St} {a0 : Int32} {a1 : Int32} {a2 : Int32} {a3 : Int32} {o : Int32} (h : f_X7_against S a0 a1 a2 a3 = some o) : MI 18 eM G l yX7_against cX7_against 5 (some .int) 0 [.ref (adr G 0), .int a0, .int a1, .int a2, .int a3] S o S :=
  mI_of (by decide +kernel) (Nat.le_of_ble_eq_true rfl) (fun p e s m below meth c A H0 Q C K => w_f_X7_against C h K)
def i_X7_allShades_4 (S : St) (x1 : Int32) (x2 : Int32) : Option ((Int32 × Int32) ⊕ (Int32 × Int32)) :=
  if (S 0 5) ≤ x2 then (some (.inr (x1, x2))) else (ck (okx x2 5) <| some (.inl (x1 + (S 5 (ix x2)), x2 + (1 : Int32))))
set_option maxHeartbeats 4000000 in
set_option maxRecDepth 100000 in
theorem w_i_X7_allShades_4 {G : Geo} {p : Program} {l : Launch} {e : Env} {s : State} {m : MethodId} {args : Array Value} {below : List Frame} {meth : Method} {c : Code} {A : Nat → Prop} {H0 : Heap} {Q : State → Prop} (C : Cx G RX7 cX7_allShades 3 p s m args c) {S : St} {x1 : Int32} {x2 : Int32} {o : (Int32 × Int32) ⊕ (Int32 × Int32)} (h : i_X7_allShades_4 S x1 x2 = some o) (Kn : ∀ q, o = .inl q → ∀ (H : Heap) (locs : List Loc) (ls : Array Slot), HM G A H0 S H locs → lv_has ls 3 [(0, .ref (adr G 0)), (1, .int (q.1)), (2, .int (q.2))] → W p l e (rmK 0) s m args below meth c H locs 0 0 Q (F0 m 4 ls [])) (Kt : ∀ q, o = .inr q → ∀ (H : Heap) (locs : List Loc) (ls : Array Slot), HM G A H0 S H locs → lv_has ls 3 [(1, .int (q.1))] → W p l e (rmK 0) s m args below meth c H locs 0 0 Q (F0 m 27 ls [])) : ∀ (H : Heap) (locs : List Loc) (ls : Array Slot), HM G A H0 S H locs → lv_has ls 3 [(0, .ref (adr G 0)), (1, .int x1), (2, .int x2)] → W p l e (rmK 0) s m args below meth c H locs 0 0 Q (F0 m 4 ls []) := by
  obtain ⟨hx, hb, -⟩ := id C
  intro H locs ls hW hl
  unfold i_X7_allShades_4 at h
  refine lv_iload_n hx hb dX7_allShades_4 rfl (lv_at hl 2 rfl) ?_
  refine lv_aload_n hx hb dX7_allShades_5 rfl (lv_at hl 0 rfl) ?_
  refine gf_RX7_71 C hW dX7_allShades_6 ?_
  refine lv_icmp_ge (tgt := 27) hx hb dX7_allShades_9 (by decide) (fun b9 => ?_) (fun b9 => ?_)
  · have h := it_t b9 h
    obtain rfl := Option.some.inj h
    exact Kt _ rfl _ _ _ hW (lv_sub hl [1] rfl)
  · have h := it_f b9 h
    refine lv_iload_n hx hb dX7_allShades_12 rfl (lv_at hl 1 rfl) ?_
    refine lv_aload_n hx hb dX7_allShades_13 rfl (lv_at hl 0 rfl) ?_
    refine gf_RX7_22 C hW dX7_allShades_14 ?_
    refine lv_iload_n hx hb dX7_allShades_17 rfl (lv_at hl 2 rfl) ?_
    obtain ⟨g18, h⟩ := ck_some h
    refine x_iald C hW (k := 5) (n := 5) (by decide) (fun _ => rfl) g18 dX7_allShades_18 ?_
    refine lv_iadd hx hb dX7_allShades_19 ?_
    refine lv_istore_n (lv' := [(1, .int (x1 + (S 5 (ix x2)))), (0, .ref (adr G 0)), (2, .int x2)]) hx hb dX7_allShades_20 rfl hl (by decide) rfl (fun ls hl => ?_)
    refine lv_iinc (v := (x2 + (1 : Int32))) (lv' := [(2, .int (x2 + (1 : Int32))), (1, .int (x1 + (S 5 (ix x2)))), (0, .ref (adr G 0))]) hx hb dX7_allShades_21 hl (k := 2) rfl rfl (by decide) rfl (fun ls hl => ?_)
    refine lv_goto (tgt := 4) hx hb dX7_allShades_24 (by decide) ?_
    obtain rfl := Option.some.inj h
    exact Kn _ rfl _ _ _ hW (lv_sub hl [2, 1, 0] rfl)
set_option maxHeartbeats 4000000 in
set_option maxRecDepth 100000 in
theorem l_i_X7_allShades_4 {G : Geo} {p : Program} {l : Launch} {e : Env} {s : State} {m : MethodId} {args : Array Value} {below : List Frame} {meth : Method} {c : Code} {A : Nat → Prop} {H0 : Heap} {Q : State → Prop} (C : Cx G RX7 cX7_allShades 3 p s m args c) {S : St}  {n : Nat} {q0 : Int32 × Int32} {u : Int32 × Int32} (hq : iter (fun q : Int32 × Int32 => i_X7_allShades_4 S q.1 q.2) n q0 = some u) (Kt : (fun q : Int32 × Int32 => ∀ (H : Heap) (locs : List Loc) (ls : Array Slot), HM G A H0 S H locs → lv_has ls 3 [(1, .int (q.1))] → W p l e (rmK 0) s m args below meth c H locs 0 0 Q (F0 m 27 ls [])) u) : (fun q : Int32 × Int32 => ∀ (H : Heap) (locs : List Loc) (ls : Array Slot), HM G A H0 S H locs → lv_has ls 3 [(0, .ref (adr G 0)), (1, .int (q.1)), (2, .int (q.2))] → W p l e (rmK 0) s m args below meth c H locs 0 0 Q (F0 m 4 ls [])) q0 :=
  iter_W (P := fun q : Int32 × Int32 => ∀ (H : Heap) (locs : List Loc) (ls : Array Slot), HM G A H0 S H locs → lv_has ls 3 [(0, .ref (adr G 0)), (1, .int (q.1)), (2, .int (q.2))] → W p l e (rmK 0) s m args below meth c H locs 0 0 Q (F0 m 4 ls [])) (K := fun q : Int32 × Int32 => ∀ (H : Heap) (locs : List Loc) (ls : Array Slot), HM G A H0 S H locs → lv_has ls 3 [(1, .int (q.1))] → W p l e (rmK 0) s m args below meth c H locs 0 0 Q (F0 m 27 ls [])) (fun q o hit Kn Kt => w_i_X7_allShades_4 C  hit Kn Kt) n q0 u hq Kt
def f_X7_allShades (S : St) : Option (Int32) :=
  bd (iter (fun q => i_X7_allShades_4 S q.1 q.2) BIG ((0 : Int32), (0 : Int32))) fun q4 => some q4.1
set_option maxHeartbeats 4000000 in
set_option maxRecDepth 100000 in
theorem w_f_X7_allShades {G : Geo} {p : Program} {l : Launch} {e : Env} {s : State} {m : MethodId} {args : Array Value} {below : List Frame} {meth : Method} {c : Code} {A : Nat → Prop} {H0 : Heap} {Q : State → Prop} (C : Cx G RX7 cX7_allShades 3 p s m args c) {S : St}  {o : Int32} (h : f_X7_allShades S = some o) (K : KI 18 eM G A H0 cX7_allShades p l e 0 s m args below meth c Q o S) : ∀ (H : Heap) (locs : List Loc) (ls : Array Slot), HM G A H0 S H locs → lv_has ls 3 [(0, .ref (adr G 0))] → W p l e (rmK 0) s m args below meth c H locs 0 0 Q (F0 m 0 ls []) := by
  obtain ⟨hx, hb, -⟩ := id C
  intro H locs ls hW hl
  unfold f_X7_allShades at h
  refine lv_iconst (v := 0) hx hb dX7_allShades_0 (by decide) ?_
  refine lv_istore_n (lv' := [(1, .int ((0 : Int32))), (0, .ref (adr G 0))]) hx hb dX7_allShades_1 rfl hl (by decide) rfl (fun ls hl => ?_)
  refine lv_iconst (v := 0) hx hb dX7_allShades_2 (by decide) ?_
  refine lv_istore_n (lv' := [(2, .int ((0 : Int32))), (1, .int ((0 : Int32))), (0, .ref (adr G 0))]) hx hb dX7_allShades_3 rfl hl (by decide) rfl (fun ls hl => ?_)
  obtain ⟨q4, q4h, h⟩ := bd_some h
  refine l_i_X7_allShades_4 C  q4h ?_ _ _ _ hW (lv_sub hl [2, 1, 0] rfl)
  intro H locs ls hW hl
  refine lv_iload_n hx hb dX7_allShades_27 rfl (lv_at hl 0 rfl) ?_
  obtain rfl := Option.some.inj h
  exact K _ _ _ _ dX7_allShades_28 hW
set_option maxRecDepth 100000 in
theorem c_X7_allShades (l : Launch) (G : Geo) {S : St}  {o : Int32} (h : f_X7_allShades S = some o) : MI 18 eM G l yX7_allShades cX7_allShades 3 (some .int) 0 [.ref (adr G 0)] S o S :=
  mI_of (by decide +kernel) (Nat.le_of_ble_eq_true rfl) (fun p e s m below meth c A H0 Q C K => w_f_X7_allShades C h K)
def f_X7_isLamp (S : St) (a0 : Int32) : Option (Bool) :=
  if a0 < 0 then (some false) else (if (S 0 5) ≤ a0 then (some false) else (some true))
set_option maxHeartbeats 4000000 in
set_option maxRecDepth 100000 in
theorem w_f_X7_isLamp {G : Geo} {p : Program} {l : Launch} {e : Env} {s : State} {m : MethodId} {args : Array Value} {below : List Frame} {meth : Method} {c : Code} {A : Nat → Prop} {H0 : Heap} {Q : State → Prop} (C : Cx G RX7 cX7_isLamp 2 p s m args c) {S : St} {a0 : Int32} {o : Bool} (h : f_X7_isLamp S a0 = some o) (K : KI 18 eM G A H0 cX7_isLamp p l e 0 s m args below meth c Q (bi o) S) : ∀ (H : Heap) (locs : List Loc) (ls : Array Slot), HM G A H0 S H locs → lv_has ls 2 [(0, .ref (adr G 0)), (1, .int a0)] → W p l e (rmK 0) s m args below meth c H locs 0 0 Q (F0 m 0 ls []) := by
  obtain ⟨hx, hb, -⟩ := id C
  intro H locs ls hW hl
  unfold f_X7_isLamp at h
  refine lv_iload_n hx hb dX7_isLamp_0 rfl (lv_at hl 1 rfl) ?_
  refine lv_if_lt (tgt := 16) hx hb dX7_isLamp_1 (by decide) (fun b1 => ?_) (fun b1 => ?_)
  · have h := it_t b1 h
    refine lv_iconst (v := 0) hx hb dX7_isLamp_16 (by decide) ?_
    obtain rfl := Option.some.inj h
    exact K _ _ _ _ dX7_isLamp_17 hW
  · have h := it_f b1 h
    refine lv_iload_n hx hb dX7_isLamp_4 rfl (lv_at hl 1 rfl) ?_
    refine lv_aload_n hx hb dX7_isLamp_5 rfl (lv_at hl 0 rfl) ?_
    refine gf_RX7_71 C hW dX7_isLamp_6 ?_
    refine lv_icmp_ge (tgt := 16) hx hb dX7_isLamp_9 (by decide) (fun b9 => ?_) (fun b9 => ?_)
    · have h := it_t b9 h
      refine lv_iconst (v := 0) hx hb dX7_isLamp_16 (by decide) ?_
      obtain rfl := Option.some.inj h
      exact K _ _ _ _ dX7_isLamp_17 hW
    · have h := it_f b9 h
      refine lv_iconst (v := 1) hx hb dX7_isLamp_12 (by decide) ?_
      refine lv_goto (tgt := 17) hx hb dX7_isLamp_13 (by decide) ?_
      obtain rfl := Option.some.inj h
      exact K _ _ _ _ dX7_isLamp_17 hW
set_option maxRecDepth 100000 in
theorem c_X7_isLamp (l : Launch) (G : Geo) {S : St} {a0 : Int32} {o : Bool} (h : f_X7_isLamp S a0 = some o) : MI 18 eM G l yX7_isLamp cX7_isLamp 2 (some .boolean) 0 [.ref (adr G 0), .int a0] S (bi o) S :=
  mZ_of (by decide +kernel) (Nat.le_of_ble_eq_true rfl) (fun p e s m below meth c A H0 Q C K => w_f_X7_isLamp C h K)
def i_X7_manyOf_4 (S : St) (x1 : Int32) (x2 : Int32) : Option ((Int32 × Int32) ⊕ (Int32 × Int32)) :=
  if (S 0 5) ≤ x2 then (some (.inr (x1, x2))) else (ck (okx x2 5) <| some (.inl (x1 * (S 4 (ix x2)), x2 + (1 : Int32))))
set_option maxHeartbeats 4000000 in
set_option maxRecDepth 100000 in
theorem w_i_X7_manyOf_4 {G : Geo} {p : Program} {l : Launch} {e : Env} {s : State} {m : MethodId} {args : Array Value} {below : List Frame} {meth : Method} {c : Code} {A : Nat → Prop} {H0 : Heap} {Q : State → Prop} (C : Cx G RX7 cX7_manyOf 3 p s m args c) {S : St} {x1 : Int32} {x2 : Int32} {o : (Int32 × Int32) ⊕ (Int32 × Int32)} (h : i_X7_manyOf_4 S x1 x2 = some o) (Kn : ∀ q, o = .inl q → ∀ (H : Heap) (locs : List Loc) (ls : Array Slot), HM G A H0 S H locs → lv_has ls 3 [(0, .ref (adr G 0)), (1, .int (q.1)), (2, .int (q.2))] → W p l e (rmK 0) s m args below meth c H locs 0 0 Q (F0 m 4 ls [])) (Kt : ∀ q, o = .inr q → ∀ (H : Heap) (locs : List Loc) (ls : Array Slot), HM G A H0 S H locs → lv_has ls 3 [(1, .int (q.1))] → W p l e (rmK 0) s m args below meth c H locs 0 0 Q (F0 m 27 ls [])) : ∀ (H : Heap) (locs : List Loc) (ls : Array Slot), HM G A H0 S H locs → lv_has ls 3 [(0, .ref (adr G 0)), (1, .int x1), (2, .int x2)] → W p l e (rmK 0) s m args below meth c H locs 0 0 Q (F0 m 4 ls []) := by
  obtain ⟨hx, hb, -⟩ := id C
  intro H locs ls hW hl
  unfold i_X7_manyOf_4 at h
  refine lv_iload_n hx hb dX7_manyOf_4 rfl (lv_at hl 2 rfl) ?_
  refine lv_aload_n hx hb dX7_manyOf_5 rfl (lv_at hl 0 rfl) ?_
  refine gf_RX7_71 C hW dX7_manyOf_6 ?_
  refine lv_icmp_ge (tgt := 27) hx hb dX7_manyOf_9 (by decide) (fun b9 => ?_) (fun b9 => ?_)
  · have h := it_t b9 h
    obtain rfl := Option.some.inj h
    exact Kt _ rfl _ _ _ hW (lv_sub hl [1] rfl)
  · have h := it_f b9 h
    refine lv_iload_n hx hb dX7_manyOf_12 rfl (lv_at hl 1 rfl) ?_
    refine lv_aload_n hx hb dX7_manyOf_13 rfl (lv_at hl 0 rfl) ?_
    refine gf_RX7_19 C hW dX7_manyOf_14 ?_
    refine lv_iload_n hx hb dX7_manyOf_17 rfl (lv_at hl 2 rfl) ?_
    obtain ⟨g18, h⟩ := ck_some h
    refine x_iald C hW (k := 4) (n := 5) (by decide) (fun _ => rfl) g18 dX7_manyOf_18 ?_
    refine lv_imul hx hb dX7_manyOf_19 ?_
    refine lv_istore_n (lv' := [(1, .int (x1 * (S 4 (ix x2)))), (0, .ref (adr G 0)), (2, .int x2)]) hx hb dX7_manyOf_20 rfl hl (by decide) rfl (fun ls hl => ?_)
    refine lv_iinc (v := (x2 + (1 : Int32))) (lv' := [(2, .int (x2 + (1 : Int32))), (1, .int (x1 * (S 4 (ix x2)))), (0, .ref (adr G 0))]) hx hb dX7_manyOf_21 hl (k := 2) rfl rfl (by decide) rfl (fun ls hl => ?_)
    refine lv_goto (tgt := 4) hx hb dX7_manyOf_24 (by decide) ?_
    obtain rfl := Option.some.inj h
    exact Kn _ rfl _ _ _ hW (lv_sub hl [2, 1, 0] rfl)
set_option maxHeartbeats 4000000 in
set_option maxRecDepth 100000 in
theorem l_i_X7_manyOf_4 {G : Geo} {p : Program} {l : Launch} {e : Env} {s : State} {m : MethodId} {args : Array Value} {below : List Frame} {meth : Method} {c : Code} {A : Nat → Prop} {H0 : Heap} {Q : State → Prop} (C : Cx G RX7 cX7_manyOf 3 p s m args c) {S : St}  {n : Nat} {q0 : Int32 × Int32} {u : Int32 × Int32} (hq : iter (fun q : Int32 × Int32 => i_X7_manyOf_4 S q.1 q.2) n q0 = some u) (Kt : (fun q : Int32 × Int32 => ∀ (H : Heap) (locs : List Loc) (ls : Array Slot), HM G A H0 S H locs → lv_has ls 3 [(1, .int (q.1))] → W p l e (rmK 0) s m args below meth c H locs 0 0 Q (F0 m 27 ls [])) u) : (fun q : Int32 × Int32 => ∀ (H : Heap) (locs : List Loc) (ls : Array Slot), HM G A H0 S H locs → lv_has ls 3 [(0, .ref (adr G 0)), (1, .int (q.1)), (2, .int (q.2))] → W p l e (rmK 0) s m args below meth c H locs 0 0 Q (F0 m 4 ls [])) q0 :=
  iter_W (P := fun q : Int32 × Int32 => ∀ (H : Heap) (locs : List Loc) (ls : Array Slot), HM G A H0 S H locs → lv_has ls 3 [(0, .ref (adr G 0)), (1, .int (q.1)), (2, .int (q.2))] → W p l e (rmK 0) s m args below meth c H locs 0 0 Q (F0 m 4 ls [])) (K := fun q : Int32 × Int32 => ∀ (H : Heap) (locs : List Loc) (ls : Array Slot), HM G A H0 S H locs → lv_has ls 3 [(1, .int (q.1))] → W p l e (rmK 0) s m args below meth c H locs 0 0 Q (F0 m 27 ls [])) (fun q o hit Kn Kt => w_i_X7_manyOf_4 C  hit Kn Kt) n q0 u hq Kt
def f_X7_manyOf (S : St) : Option (Int32) :=
  bd (iter (fun q => i_X7_manyOf_4 S q.1 q.2) BIG ((1 : Int32), (0 : Int32))) fun q4 => some q4.1
set_option maxHeartbeats 4000000 in
set_option maxRecDepth 100000 in
theorem w_f_X7_manyOf {G : Geo} {p : Program} {l : Launch} {e : Env} {s : State} {m : MethodId} {args : Array Value} {below : List Frame} {meth : Method} {c : Code} {A : Nat → Prop} {H0 : Heap} {Q : State → Prop} (C : Cx G RX7 cX7_manyOf 3 p s m args c) {S : St}  {o : Int32} (h : f_X7_manyOf S = some o) (K : KI 18 eM G A H0 cX7_manyOf p l e 0 s m args below meth c Q o S) : ∀ (H : Heap) (locs : List Loc) (ls : Array Slot), HM G A H0 S H locs → lv_has ls 3 [(0, .ref (adr G 0))] → W p l e (rmK 0) s m args below meth c H locs 0 0 Q (F0 m 0 ls []) := by
  obtain ⟨hx, hb, -⟩ := id C
  intro H locs ls hW hl
  unfold f_X7_manyOf at h
  refine lv_iconst (v := 1) hx hb dX7_manyOf_0 (by decide) ?_
  refine lv_istore_n (lv' := [(1, .int ((1 : Int32))), (0, .ref (adr G 0))]) hx hb dX7_manyOf_1 rfl hl (by decide) rfl (fun ls hl => ?_)
  refine lv_iconst (v := 0) hx hb dX7_manyOf_2 (by decide) ?_
  refine lv_istore_n (lv' := [(2, .int ((0 : Int32))), (1, .int ((1 : Int32))), (0, .ref (adr G 0))]) hx hb dX7_manyOf_3 rfl hl (by decide) rfl (fun ls hl => ?_)
  obtain ⟨q4, q4h, h⟩ := bd_some h
  refine l_i_X7_manyOf_4 C  q4h ?_ _ _ _ hW (lv_sub hl [2, 1, 0] rfl)
  intro H locs ls hW hl
  refine lv_iload_n hx hb dX7_manyOf_27 rfl (lv_at hl 0 rfl) ?_
  obtain rfl := Option.some.inj h
  exact K _ _ _ _ dX7_manyOf_28 hW
set_option maxRecDepth 100000 in
theorem c_X7_manyOf (l : Launch) (G : Geo) {S : St}  {o : Int32} (h : f_X7_manyOf S = some o) : MI 18 eM G l yX7_manyOf cX7_manyOf 3 (some .int) 0 [.ref (adr G 0)] S o S :=
  mI_of (by decide +kernel) (Nat.le_of_ble_eq_true rfl) (fun p e s m below meth c A H0 Q C K => w_f_X7_manyOf C h K)
def f_X7_isOf (a0 : Int32) (a1 : Int32) : Option (Bool) :=
  if ((shr32 a0 a1) &&& ((1 : Int32))) = ((1 : Int32)) then (some true) else (some false)
set_option maxHeartbeats 4000000 in
set_option maxRecDepth 100000 in
theorem w_f_X7_isOf {G : Geo} {p : Program} {l : Launch} {e : Env} {s : State} {m : MethodId} {args : Array Value} {below : List Frame} {meth : Method} {c : Code} {A : Nat → Prop} {H0 : Heap} {Q : State → Prop} (C : Cx G RX7 cX7_isOf 2 p s m args c) {S : St} {a0 : Int32} {a1 : Int32} {o : Bool} (h : f_X7_isOf a0 a1 = some o) (K : KI 18 eM G A H0 cX7_isOf p l e 0 s m args below meth c Q (bi o) S) : ∀ (H : Heap) (locs : List Loc) (ls : Array Slot), HM G A H0 S H locs → lv_has ls 2 [(0, .int a0), (1, .int a1)] → W p l e (rmK 0) s m args below meth c H locs 0 0 Q (F0 m 0 ls []) := by
  obtain ⟨hx, hb, -⟩ := id C
  intro H locs ls hW hl
  unfold f_X7_isOf at h
  refine lv_iload_n hx hb dX7_isOf_0 rfl (lv_at hl 0 rfl) ?_
  refine lv_iload_n hx hb dX7_isOf_1 rfl (lv_at hl 1 rfl) ?_
  refine lv_ishr hx hb dX7_isOf_2 ?_
  refine lv_iconst (v := 1) hx hb dX7_isOf_3 (by decide) ?_
  refine lv_iand hx hb dX7_isOf_4 ?_
  refine lv_iconst (v := 1) hx hb dX7_isOf_5 (by decide) ?_
  refine lv_icmp_ne (tgt := 13) hx hb dX7_isOf_6 (by decide) (fun b6 => ?_) (fun b6 => ?_)
  · have h := it_f b6 h
    refine lv_iconst (v := 0) hx hb dX7_isOf_13 (by decide) ?_
    obtain rfl := Option.some.inj h
    exact K _ _ _ _ dX7_isOf_14 hW
  · have h := it_t b6 h
    refine lv_iconst (v := 1) hx hb dX7_isOf_9 (by decide) ?_
    refine lv_goto (tgt := 14) hx hb dX7_isOf_10 (by decide) ?_
    obtain rfl := Option.some.inj h
    exact K _ _ _ _ dX7_isOf_14 hW
set_option maxRecDepth 100000 in
theorem c_X7_isOf (l : Launch) (G : Geo) {S : St} {a0 : Int32} {a1 : Int32} {o : Bool} (h : f_X7_isOf a0 a1 = some o) : MI 18 eM G l yX7_isOf cX7_isOf 2 (some .boolean) 0 [.int a0, .int a1] S (bi o) S :=
  mZ_of (by decide +kernel) (Nat.le_of_ble_eq_true rfl) (fun p e s m below meth c A H0 Q C K => w_f_X7_isOf C h K)
def f_X7_movesOf (S : St) (a0 : Int32) : Option (Int32) :=
  ck (okx a0 5) <| if (S 6 (ix a0)) = 0 then (ck (okx a0 5) <| some (S 7 (ix a0))) else (ck (okx a0 5) <| if (S 6 (ix a0)) = ((1 : Int32)) then (ck (okx a0 5) <| some ((S 7 (ix a0)) + ((1 : Int32)))) else (ck (okx a0 5) <| some (((2 : Int32)) * (S 7 (ix a0)))))
set_option maxHeartbeats 4000000 in
set_option maxRecDepth 100000 in
theorem w_f_X7_movesOf {G : Geo} {p : Program} {l : Launch} {e : Env} {s : State} {m : MethodId} {args : Array Value} {below : List Frame} {meth : Method} {c : Code} {A : Nat → Prop} {H0 : Heap} {Q : State → Prop} (C : Cx G RX7 cX7_movesOf 2 p s m args c) {S : St} {a0 : Int32} {o : Int32} (h : f_X7_movesOf S a0 = some o) (K : KI 18 eM G A H0 cX7_movesOf p l e 0 s m args below meth c Q o S) : ∀ (H : Heap) (locs : List Loc) (ls : Array Slot), HM G A H0 S H locs → lv_has ls 2 [(0, .ref (adr G 0)), (1, .int a0)] → W p l e (rmK 0) s m args below meth c H locs 0 0 Q (F0 m 0 ls []) := by
  obtain ⟨hx, hb, -⟩ := id C
  intro H locs ls hW hl
  unfold f_X7_movesOf at h
  refine lv_aload_n hx hb dX7_movesOf_0 rfl (lv_at hl 0 rfl) ?_
  refine gf_RX7_25 C hW dX7_movesOf_1 ?_
  refine lv_iload_n hx hb dX7_movesOf_4 rfl (lv_at hl 1 rfl) ?_
  obtain ⟨g5, h⟩ := ck_some h
  refine x_iald C hW (k := 6) (n := 5) (by decide) (fun _ => rfl) g5 dX7_movesOf_5 ?_
  refine lv_if_ne (tgt := 18) hx hb dX7_movesOf_6 (by decide) (fun b6 => ?_) (fun b6 => ?_)
  · have h := it_f b6 h
    refine lv_aload_n hx hb dX7_movesOf_18 rfl (lv_at hl 0 rfl) ?_
    refine gf_RX7_25 C hW dX7_movesOf_19 ?_
    refine lv_iload_n hx hb dX7_movesOf_22 rfl (lv_at hl 1 rfl) ?_
    obtain ⟨g23, h⟩ := ck_some h
    refine x_iald C hW (k := 6) (n := 5) (by decide) (fun _ => rfl) g23 dX7_movesOf_23 ?_
    refine lv_iconst (v := 1) hx hb dX7_movesOf_24 (by decide) ?_
    refine lv_icmp_ne (tgt := 39) hx hb dX7_movesOf_25 (by decide) (fun b25 => ?_) (fun b25 => ?_)
    · have h := it_f b25 h
      refine lv_iconst (v := 2) hx hb dX7_movesOf_39 (by decide) ?_
      refine lv_aload_n hx hb dX7_movesOf_40 rfl (lv_at hl 0 rfl) ?_
      refine gf_RX7_28 C hW dX7_movesOf_41 ?_
      refine lv_iload_n hx hb dX7_movesOf_44 rfl (lv_at hl 1 rfl) ?_
      obtain ⟨g45, h⟩ := ck_some h
      refine x_iald C hW (k := 7) (n := 5) (by decide) (fun _ => rfl) g45 dX7_movesOf_45 ?_
      refine lv_imul hx hb dX7_movesOf_46 ?_
      obtain rfl := Option.some.inj h
      exact K _ _ _ _ dX7_movesOf_47 hW
    · have h := it_t b25 h
      refine lv_aload_n hx hb dX7_movesOf_28 rfl (lv_at hl 0 rfl) ?_
      refine gf_RX7_28 C hW dX7_movesOf_29 ?_
      refine lv_iload_n hx hb dX7_movesOf_32 rfl (lv_at hl 1 rfl) ?_
      obtain ⟨g33, h⟩ := ck_some h
      refine x_iald C hW (k := 7) (n := 5) (by decide) (fun _ => rfl) g33 dX7_movesOf_33 ?_
      refine lv_iconst (v := 1) hx hb dX7_movesOf_34 (by decide) ?_
      refine lv_iadd hx hb dX7_movesOf_35 ?_
      refine lv_goto (tgt := 47) hx hb dX7_movesOf_36 (by decide) ?_
      obtain rfl := Option.some.inj h
      exact K _ _ _ _ dX7_movesOf_47 hW
  · have h := it_t b6 h
    refine lv_aload_n hx hb dX7_movesOf_9 rfl (lv_at hl 0 rfl) ?_
    refine gf_RX7_28 C hW dX7_movesOf_10 ?_
    refine lv_iload_n hx hb dX7_movesOf_13 rfl (lv_at hl 1 rfl) ?_
    obtain ⟨g14, h⟩ := ck_some h
    refine x_iald C hW (k := 7) (n := 5) (by decide) (fun _ => rfl) g14 dX7_movesOf_14 ?_
    refine lv_goto (tgt := 47) hx hb dX7_movesOf_15 (by decide) ?_
    obtain rfl := Option.some.inj h
    exact K _ _ _ _ dX7_movesOf_47 hW
set_option maxRecDepth 100000 in
theorem c_X7_movesOf (l : Launch) (G : Geo) {S : St} {a0 : Int32} {o : Int32} (h : f_X7_movesOf S a0 = some o) : MI 18 eM G l yX7_movesOf cX7_movesOf 2 (some .int) 0 [.ref (adr G 0), .int a0] S o S :=
  mI_of (by decide +kernel) (Nat.le_of_ble_eq_true rfl) (fun p e s m below meth c A H0 Q C K => w_f_X7_movesOf C h K)
def j_X7_movedBy_103 (S : St) (x2 : Int32) (x3 : Bool) (x4 : Int32) (x5 : Int32) (x6 : Int32) (x7 : Int32) (y0 : Int32) : Option ((Int32 × Int32 × Int32 × Int32) ⊕ (Int32 × Int32 × Int32 × Int32)) :=
  ck (okx x7 5) <| ck (¬ (S 4 (ix x7)) = 0) <| ck (okx x7 5) <| some (.inl (x4, x5 * (S 4 (ix x7)), x6 + ((rem32 y0 (S 4 (ix x7))) * x5), x7 + (1 : Int32)))
set_option maxHeartbeats 4000000 in
set_option maxRecDepth 100000 in
theorem w_j_X7_movedBy_103 {G : Geo} {p : Program} {l : Launch} {e : Env} {s : State} {m : MethodId} {args : Array Value} {below : List Frame} {meth : Method} {c : Code} {A : Nat → Prop} {H0 : Heap} {Q : State → Prop} (C : Cx G RX7 cX7_movedBy 11 p s m args c) {S : St} {x2 : Int32} {x3 : Bool} {x4 : Int32} {x5 : Int32} {x6 : Int32} {x7 : Int32} {y0 : Int32} {o : (Int32 × Int32 × Int32 × Int32) ⊕ (Int32 × Int32 × Int32 × Int32)} (h : j_X7_movedBy_103 S x2 x3 x4 x5 x6 x7 y0 = some o) (Kn : ∀ q, o = .inl q → ∀ (H : Heap) (locs : List Loc) (ls : Array Slot), HM G A H0 S H locs → lv_has ls 11 [(0, .ref (adr G 0)), (2, .int x2), (3, .int (bi x3)), (4, .int (q.1)), (5, .int (q.2.1)), (6, .int (q.2.2.1)), (7, .int (q.2.2.2))] → W p l e (rmK 1) s m args below meth c H locs 0 0 Q (F0 m 12 ls [])) (Kt : ∀ q, o = .inr q → ∀ (H : Heap) (locs : List Loc) (ls : Array Slot), HM G A H0 S H locs → lv_has ls 11 [(6, .int (q.2.2.1))] → W p l e (rmK 1) s m args below meth c H locs 0 0 Q (F0 m 141 ls [])) : ∀ (H : Heap) (locs : List Loc) (ls : Array Slot), HM G A H0 S H locs → lv_has ls 11 [(0, .ref (adr G 0)), (2, .int x2), (3, .int (bi x3)), (4, .int x4), (5, .int x5), (6, .int x6), (7, .int x7)] → W p l e (rmK 1) s m args below meth c H locs 0 0 Q (F0 m 103 ls [.int y0]) := by
  obtain ⟨hx, hb, -⟩ := id C
  intro H locs ls hW hl
  unfold j_X7_movedBy_103 at h
  refine lv_istore (lv' := [(10, .int y0), (0, .ref (adr G 0)), (2, .int x2), (3, .int (bi x3)), (4, .int x4), (5, .int x5), (6, .int x6), (7, .int x7)]) hx hb dX7_movedBy_103 hl (by decide) rfl (fun ls hl => ?_)
  refine lv_iload hx hb dX7_movedBy_105 (lv_at hl 6 rfl) ?_
  refine lv_iload hx hb dX7_movedBy_107 (lv_at hl 0 rfl) ?_
  refine lv_aload_n hx hb dX7_movedBy_109 rfl (lv_at hl 1 rfl) ?_
  refine gf_RX7_19 C hW dX7_movedBy_110 ?_
  refine lv_iload hx hb dX7_movedBy_113 (lv_at hl 7 rfl) ?_
  obtain ⟨g115, h⟩ := ck_some h
  refine x_iald C hW (k := 4) (n := 5) (by decide) (fun _ => rfl) g115 dX7_movedBy_115 ?_
  obtain ⟨g116, h⟩ := ck_some h
  refine lv_irem hx hb dX7_movedBy_116 g116 ?_
  refine lv_iload hx hb dX7_movedBy_117 (lv_at hl 5 rfl) ?_
  refine lv_imul hx hb dX7_movedBy_119 ?_
  refine lv_iadd hx hb dX7_movedBy_120 ?_
  refine lv_istore (lv' := [(6, .int (x6 + ((rem32 y0 (S 4 (ix x7))) * x5))), (10, .int y0), (0, .ref (adr G 0)), (2, .int x2), (3, .int (bi x3)), (4, .int x4), (5, .int x5), (7, .int x7)]) hx hb dX7_movedBy_121 hl (by decide) rfl (fun ls hl => ?_)
  refine lv_iload hx hb dX7_movedBy_123 (lv_at hl 6 rfl) ?_
  refine lv_aload_n hx hb dX7_movedBy_125 rfl (lv_at hl 2 rfl) ?_
  refine gf_RX7_19 C hW dX7_movedBy_126 ?_
  refine lv_iload hx hb dX7_movedBy_129 (lv_at hl 7 rfl) ?_
  obtain ⟨g131, h⟩ := ck_some h
  refine x_iald C hW (k := 4) (n := 5) (by decide) (fun _ => rfl) g131 dX7_movedBy_131 ?_
  refine lv_imul hx hb dX7_movedBy_132 ?_
  refine lv_istore (lv' := [(5, .int (x5 * (S 4 (ix x7)))), (6, .int (x6 + ((rem32 y0 (S 4 (ix x7))) * x5))), (10, .int y0), (0, .ref (adr G 0)), (2, .int x2), (3, .int (bi x3)), (4, .int x4), (7, .int x7)]) hx hb dX7_movedBy_133 hl (by decide) rfl (fun ls hl => ?_)
  refine lv_iinc (v := (x7 + (1 : Int32))) (lv' := [(7, .int (x7 + (1 : Int32))), (5, .int (x5 * (S 4 (ix x7)))), (6, .int (x6 + ((rem32 y0 (S 4 (ix x7))) * x5))), (10, .int y0), (0, .ref (adr G 0)), (2, .int x2), (3, .int (bi x3)), (4, .int x4)]) hx hb dX7_movedBy_135 hl (k := 7) rfl rfl (by decide) rfl (fun ls hl => ?_)
  refine lv_goto (tgt := 12) hx hb dX7_movedBy_138 (by decide) ?_
  obtain rfl := Option.some.inj h
  exact Kn _ rfl _ _ _ hW (lv_sub hl [4, 5, 6, 7, 1, 2, 0] rfl)
def j_X7_movedBy_76 (S : St) (x2 : Int32) (x3 : Bool) (x4 : Int32) (x5 : Int32) (x6 : Int32) (x7 : Int32) (x8 : Int32) (y0 : Int32) : Option ((Int32 × Int32 × Int32 × Int32) ⊕ (Int32 × Int32 × Int32 × Int32)) :=
  if x3 = false then (j_X7_movedBy_103 S x2 x3 x4 x5 x6 x7 (x8 + y0)) else (ck (okx x7 5) <| j_X7_movedBy_103 S x2 x3 x4 x5 x6 x7 ((x8 + (S 4 (ix x7))) - y0))
set_option maxHeartbeats 4000000 in
set_option maxRecDepth 100000 in
theorem w_j_X7_movedBy_76 {G : Geo} {p : Program} {l : Launch} {e : Env} {s : State} {m : MethodId} {args : Array Value} {below : List Frame} {meth : Method} {c : Code} {A : Nat → Prop} {H0 : Heap} {Q : State → Prop} (C : Cx G RX7 cX7_movedBy 11 p s m args c) {S : St} {x2 : Int32} {x3 : Bool} {x4 : Int32} {x5 : Int32} {x6 : Int32} {x7 : Int32} {x8 : Int32} {y0 : Int32} {o : (Int32 × Int32 × Int32 × Int32) ⊕ (Int32 × Int32 × Int32 × Int32)} (h : j_X7_movedBy_76 S x2 x3 x4 x5 x6 x7 x8 y0 = some o) (Kn : ∀ q, o = .inl q → ∀ (H : Heap) (locs : List Loc) (ls : Array Slot), HM G A H0 S H locs → lv_has ls 11 [(0, .ref (adr G 0)), (2, .int x2), (3, .int (bi x3)), (4, .int (q.1)), (5, .int (q.2.1)), (6, .int (q.2.2.1)), (7, .int (q.2.2.2))] → W p l e (rmK 1) s m args below meth c H locs 0 0 Q (F0 m 12 ls [])) (Kt : ∀ q, o = .inr q → ∀ (H : Heap) (locs : List Loc) (ls : Array Slot), HM G A H0 S H locs → lv_has ls 11 [(6, .int (q.2.2.1))] → W p l e (rmK 1) s m args below meth c H locs 0 0 Q (F0 m 141 ls [])) : ∀ (H : Heap) (locs : List Loc) (ls : Array Slot), HM G A H0 S H locs → lv_has ls 11 [(0, .ref (adr G 0)), (2, .int x2), (3, .int (bi x3)), (4, .int x4), (5, .int x5), (6, .int x6), (7, .int x7), (8, .int x8)] → W p l e (rmK 1) s m args below meth c H locs 0 0 Q (F0 m 76 ls [.int y0]) := by
  obtain ⟨hx, hb, -⟩ := id C
  intro H locs ls hW hl
  unfold j_X7_movedBy_76 at h
  refine lv_istore (lv' := [(9, .int y0), (0, .ref (adr G 0)), (2, .int x2), (3, .int (bi x3)), (4, .int x4), (5, .int x5), (6, .int x6), (7, .int x7), (8, .int x8)]) hx hb dX7_movedBy_76 hl (by decide) rfl (fun ls hl => ?_)
  refine lv_iload_n hx hb dX7_movedBy_78 rfl (lv_at hl 3 rfl) ?_
  refine z_if_eq (tgt := 98) hx hb dX7_movedBy_79 (by decide) (fun b79 => ?_) (fun b79 => ?_)
  · have h := it_t b79 h
    refine lv_iload hx hb dX7_movedBy_98 (lv_at hl 8 rfl) ?_
    refine lv_iload hx hb dX7_movedBy_100 (lv_at hl 0 rfl) ?_
    refine lv_iadd hx hb dX7_movedBy_102 ?_
    exact w_j_X7_movedBy_103 C  h Kn Kt _ _ _ hW (lv_sub hl [1, 2, 3, 4, 5, 6, 7] rfl)
  · have h := it_f b79 h
    refine lv_iload hx hb dX7_movedBy_82 (lv_at hl 8 rfl) ?_
    refine lv_aload_n hx hb dX7_movedBy_84 rfl (lv_at hl 1 rfl) ?_
    refine gf_RX7_19 C hW dX7_movedBy_85 ?_
    refine lv_iload hx hb dX7_movedBy_88 (lv_at hl 7 rfl) ?_
    obtain ⟨g90, h⟩ := ck_some h
    refine x_iald C hW (k := 4) (n := 5) (by decide) (fun _ => rfl) g90 dX7_movedBy_90 ?_
    refine lv_iadd hx hb dX7_movedBy_91 ?_
    refine lv_iload hx hb dX7_movedBy_92 (lv_at hl 0 rfl) ?_
    refine lv_isub hx hb dX7_movedBy_94 ?_
    refine lv_goto (tgt := 103) hx hb dX7_movedBy_95 (by decide) ?_
    exact w_j_X7_movedBy_103 C  h Kn Kt _ _ _ hW (lv_sub hl [1, 2, 3, 4, 5, 6, 7] rfl)
def i_X7_movedBy_12 (S : St) (x2 : Int32) (x3 : Bool) (x4 : Int32) (x5 : Int32) (x6 : Int32) (x7 : Int32) : Option ((Int32 × Int32 × Int32 × Int32) ⊕ (Int32 × Int32 × Int32 × Int32)) :=
  if (S 0 5) ≤ x7 then (some (.inr (x4, x5, x6, x7))) else (ck (okx x7 5) <| ck (¬ (S 4 (ix x7)) = 0) <| ck (okx x7 5) <| ck (¬ (S 4 (ix x7)) = 0) <| ck (okx x2 5) <| bd (f_X7_isOf (S 8 (ix x2)) x7) fun r53 => if r53 = false then (j_X7_movedBy_76 S x2 x3 (x4 / (S 4 (ix x7))) x5 x6 x7 (rem32 x4 (S 4 (ix x7))) ((0 : Int32))) else (bd (f_X7_movesOf S x2) fun r61 => ck (okx x7 5) <| ck (¬ (S 4 (ix x7)) = 0) <| j_X7_movedBy_76 S x2 x3 (x4 / (S 4 (ix x7))) x5 x6 x7 (rem32 x4 (S 4 (ix x7))) (rem32 r61 (S 4 (ix x7)))))
set_option maxHeartbeats 4000000 in
set_option maxRecDepth 100000 in
theorem w_i_X7_movedBy_12 {G : Geo} {p : Program} {l : Launch} {e : Env} {s : State} {m : MethodId} {args : Array Value} {below : List Frame} {meth : Method} {c : Code} {A : Nat → Prop} {H0 : Heap} {Q : State → Prop} (C : Cx G RX7 cX7_movedBy 11 p s m args c) {S : St} {x2 : Int32} {x3 : Bool} {x4 : Int32} {x5 : Int32} {x6 : Int32} {x7 : Int32} {o : (Int32 × Int32 × Int32 × Int32) ⊕ (Int32 × Int32 × Int32 × Int32)} (h : i_X7_movedBy_12 S x2 x3 x4 x5 x6 x7 = some o) (Kn : ∀ q, o = .inl q → ∀ (H : Heap) (locs : List Loc) (ls : Array Slot), HM G A H0 S H locs → lv_has ls 11 [(0, .ref (adr G 0)), (2, .int x2), (3, .int (bi x3)), (4, .int (q.1)), (5, .int (q.2.1)), (6, .int (q.2.2.1)), (7, .int (q.2.2.2))] → W p l e (rmK 1) s m args below meth c H locs 0 0 Q (F0 m 12 ls [])) (Kt : ∀ q, o = .inr q → ∀ (H : Heap) (locs : List Loc) (ls : Array Slot), HM G A H0 S H locs → lv_has ls 11 [(6, .int (q.2.2.1))] → W p l e (rmK 1) s m args below meth c H locs 0 0 Q (F0 m 141 ls [])) : ∀ (H : Heap) (locs : List Loc) (ls : Array Slot), HM G A H0 S H locs → lv_has ls 11 [(0, .ref (adr G 0)), (2, .int x2), (3, .int (bi x3)), (4, .int x4), (5, .int x5), (6, .int x6), (7, .int x7)] → W p l e (rmK 1) s m args below meth c H locs 0 0 Q (F0 m 12 ls []) := by
  obtain ⟨hx, hb, -⟩ := id C
  intro H locs ls hW hl
  unfold i_X7_movedBy_12 at h
  refine lv_iload hx hb dX7_movedBy_12 (lv_at hl 6 rfl) ?_
  refine lv_aload_n hx hb dX7_movedBy_14 rfl (lv_at hl 0 rfl) ?_
  refine gf_RX7_71 C hW dX7_movedBy_15 ?_
  refine lv_icmp_ge (tgt := 141) hx hb dX7_movedBy_18 (by decide) (fun b18 => ?_) (fun b18 => ?_)
  · have h := it_t b18 h
    obtain rfl := Option.some.inj h
    exact Kt _ rfl _ _ _ hW (lv_sub hl [5] rfl)
  · have h := it_f b18 h
    refine lv_iload hx hb dX7_movedBy_21 (lv_at hl 3 rfl) ?_
    refine lv_aload_n hx hb dX7_movedBy_23 rfl (lv_at hl 0 rfl) ?_
    refine gf_RX7_19 C hW dX7_movedBy_24 ?_
    refine lv_iload hx hb dX7_movedBy_27 (lv_at hl 6 rfl) ?_
    obtain ⟨g29, h⟩ := ck_some h
    refine x_iald C hW (k := 4) (n := 5) (by decide) (fun _ => rfl) g29 dX7_movedBy_29 ?_
    obtain ⟨g30, h⟩ := ck_some h
    refine lv_irem hx hb dX7_movedBy_30 g30 ?_
    refine lv_istore (lv' := [(8, .int (rem32 x4 (S 4 (ix x7)))), (0, .ref (adr G 0)), (2, .int x2), (3, .int (bi x3)), (4, .int x4), (5, .int x5), (6, .int x6), (7, .int x7)]) hx hb dX7_movedBy_31 hl (by decide) rfl (fun ls hl => ?_)
    refine lv_iload hx hb dX7_movedBy_33 (lv_at hl 4 rfl) ?_
    refine lv_aload_n hx hb dX7_movedBy_35 rfl (lv_at hl 1 rfl) ?_
    refine gf_RX7_19 C hW dX7_movedBy_36 ?_
    refine lv_iload hx hb dX7_movedBy_39 (lv_at hl 7 rfl) ?_
    obtain ⟨g41, h⟩ := ck_some h
    refine x_iald C hW (k := 4) (n := 5) (by decide) (fun _ => rfl) g41 dX7_movedBy_41 ?_
    obtain ⟨g42, h⟩ := ck_some h
    refine lv_idiv hx hb dX7_movedBy_42 g42 ?_
    refine lv_istore (lv' := [(4, .int (x4 / (S 4 (ix x7)))), (8, .int (rem32 x4 (S 4 (ix x7)))), (0, .ref (adr G 0)), (2, .int x2), (3, .int (bi x3)), (5, .int x5), (6, .int x6), (7, .int x7)]) hx hb dX7_movedBy_43 hl (by decide) rfl (fun ls hl => ?_)
    refine lv_aload_n hx hb dX7_movedBy_45 rfl (lv_at hl 2 rfl) ?_
    refine gf_RX7_31 C hW dX7_movedBy_46 ?_
    refine lv_iload_n hx hb dX7_movedBy_49 rfl (lv_at hl 3 rfl) ?_
    obtain ⟨g50, h⟩ := ck_some h
    refine x_iald C hW (k := 8) (n := 5) (by decide) (fun _ => rfl) g50 dX7_movedBy_50 ?_
    refine lv_iload hx hb dX7_movedBy_51 (lv_at hl 7 rfl) ?_
    obtain ⟨r53, r53h, h⟩ := bd_some h
    refine x_backI hW (x_runS (As := [.int (S 8 (ix x2)), .int x7]) (rest := []) C hW (c_X7_isOf l G (S := S) r53h H.size) cs_RX7_124 hl.1 rfl rfl ⟨by decide, by decide⟩ (Nat.le_of_ble_eq_true rfl) ⟨Nat.zero_le _, Nat.zero_le _⟩ dX7_movedBy_53) (fun H locs hW => ?_)
    refine z_if_eq (tgt := 75) hx hb dX7_movedBy_56 (by decide) (fun b56 => ?_) (fun b56 => ?_)
    · have h := it_t b56 h
      refine lv_iconst (v := 0) hx hb dX7_movedBy_75 (by decide) ?_
      exact w_j_X7_movedBy_76 C  h Kn Kt _ _ _ hW (lv_sub hl [2, 3, 4, 0, 5, 6, 7, 1] rfl)
    · have h := it_f b56 h
      refine lv_aload_n hx hb dX7_movedBy_59 rfl (lv_at hl 2 rfl) ?_
      refine lv_iload_n hx hb dX7_movedBy_60 rfl (lv_at hl 3 rfl) ?_
      obtain ⟨r61, r61h, h⟩ := bd_some h
      refine x_backI hW (x_runV (As := [.int x2]) (rest := []) C hW (c_X7_movesOf l G r61h H.size) cv_RX7_136 rv_X7 hl.1 rfl rfl ⟨by decide, by decide⟩ (Nat.le_of_ble_eq_true rfl) ⟨Nat.zero_le _, Nat.zero_le _⟩ dX7_movedBy_61) (fun H locs hW => ?_)
      refine lv_aload_n hx hb dX7_movedBy_64 rfl (lv_at hl 2 rfl) ?_
      refine gf_RX7_19 C hW dX7_movedBy_65 ?_
      refine lv_iload hx hb dX7_movedBy_68 (lv_at hl 7 rfl) ?_
      obtain ⟨g70, h⟩ := ck_some h
      refine x_iald C hW (k := 4) (n := 5) (by decide) (fun _ => rfl) g70 dX7_movedBy_70 ?_
      obtain ⟨g71, h⟩ := ck_some h
      refine lv_irem hx hb dX7_movedBy_71 g71 ?_
      refine lv_goto (tgt := 76) hx hb dX7_movedBy_72 (by decide) ?_
      exact w_j_X7_movedBy_76 C  h Kn Kt _ _ _ hW (lv_sub hl [2, 3, 4, 0, 5, 6, 7, 1] rfl)
set_option maxHeartbeats 4000000 in
set_option maxRecDepth 100000 in
theorem l_i_X7_movedBy_12 {G : Geo} {p : Program} {l : Launch} {e : Env} {s : State} {m : MethodId} {args : Array Value} {below : List Frame} {meth : Method} {c : Code} {A : Nat → Prop} {H0 : Heap} {Q : State → Prop} (C : Cx G RX7 cX7_movedBy 11 p s m args c) {S : St} {x2 : Int32} {x3 : Bool} {n : Nat} {q0 : Int32 × Int32 × Int32 × Int32} {u : Int32 × Int32 × Int32 × Int32} (hq : iter (fun q : Int32 × Int32 × Int32 × Int32 => i_X7_movedBy_12 S x2 x3 q.1 q.2.1 q.2.2.1 q.2.2.2) n q0 = some u) (Kt : (fun q : Int32 × Int32 × Int32 × Int32 => ∀ (H : Heap) (locs : List Loc) (ls : Array Slot), HM G A H0 S H locs → lv_has ls 11 [(6, .int (q.2.2.1))] → W p l e (rmK 1) s m args below meth c H locs 0 0 Q (F0 m 141 ls [])) u) : (fun q : Int32 × Int32 × Int32 × Int32 => ∀ (H : Heap) (locs : List Loc) (ls : Array Slot), HM G A H0 S H locs → lv_has ls 11 [(0, .ref (adr G 0)), (2, .int x2), (3, .int (bi x3)), (4, .int (q.1)), (5, .int (q.2.1)), (6, .int (q.2.2.1)), (7, .int (q.2.2.2))] → W p l e (rmK 1) s m args below meth c H locs 0 0 Q (F0 m 12 ls [])) q0 :=
  iter_W (P := fun q : Int32 × Int32 × Int32 × Int32 => ∀ (H : Heap) (locs : List Loc) (ls : Array Slot), HM G A H0 S H locs → lv_has ls 11 [(0, .ref (adr G 0)), (2, .int x2), (3, .int (bi x3)), (4, .int (q.1)), (5, .int (q.2.1)), (6, .int (q.2.2.1)), (7, .int (q.2.2.2))] → W p l e (rmK 1) s m args below meth c H locs 0 0 Q (F0 m 12 ls [])) (K := fun q : Int32 × Int32 × Int32 × Int32 => ∀ (H : Heap) (locs : List Loc) (ls : Array Slot), HM G A H0 S H locs → lv_has ls 11 [(6, .int (q.2.2.1))] → W p l e (rmK 1) s m args below meth c H locs 0 0 Q (F0 m 141 ls [])) (fun q o hit Kn Kt => w_i_X7_movedBy_12 C  hit Kn Kt) n q0 u hq Kt
def f_X7_movedBy (S : St) (a0 : Int32) (a1 : Int32) (a2 : Bool) : Option (Int32) :=
  bd (iter (fun q => i_X7_movedBy_12 S a1 a2 q.1 q.2.1 q.2.2.1 q.2.2.2) BIG (a0, (1 : Int32), (0 : Int32), (0 : Int32))) fun q12 => some q12.2.2.1
set_option maxHeartbeats 4000000 in
set_option maxRecDepth 100000 in
theorem w_f_X7_movedBy {G : Geo} {p : Program} {l : Launch} {e : Env} {s : State} {m : MethodId} {args : Array Value} {below : List Frame} {meth : Method} {c : Code} {A : Nat → Prop} {H0 : Heap} {Q : State → Prop} (C : Cx G RX7 cX7_movedBy 11 p s m args c) {S : St} {a0 : Int32} {a1 : Int32} {a2 : Bool} {o : Int32} (h : f_X7_movedBy S a0 a1 a2 = some o) (K : KI 18 eM G A H0 cX7_movedBy p l e 1 s m args below meth c Q o S) : ∀ (H : Heap) (locs : List Loc) (ls : Array Slot), HM G A H0 S H locs → lv_has ls 11 [(0, .ref (adr G 0)), (1, .int a0), (2, .int a1), (3, .int (bi a2))] → W p l e (rmK 1) s m args below meth c H locs 0 0 Q (F0 m 0 ls []) := by
  obtain ⟨hx, hb, -⟩ := id C
  intro H locs ls hW hl
  unfold f_X7_movedBy at h
  refine lv_iload_n hx hb dX7_movedBy_0 rfl (lv_at hl 1 rfl) ?_
  refine lv_istore (lv' := [(4, .int a0), (0, .ref (adr G 0)), (1, .int a0), (2, .int a1), (3, .int (bi a2))]) hx hb dX7_movedBy_1 hl (by decide) rfl (fun ls hl => ?_)
  refine lv_iconst (v := 1) hx hb dX7_movedBy_3 (by decide) ?_
  refine lv_istore (lv' := [(5, .int ((1 : Int32))), (4, .int a0), (0, .ref (adr G 0)), (1, .int a0), (2, .int a1), (3, .int (bi a2))]) hx hb dX7_movedBy_4 hl (by decide) rfl (fun ls hl => ?_)
  refine lv_iconst (v := 0) hx hb dX7_movedBy_6 (by decide) ?_
  refine lv_istore (lv' := [(6, .int ((0 : Int32))), (5, .int ((1 : Int32))), (4, .int a0), (0, .ref (adr G 0)), (1, .int a0), (2, .int a1), (3, .int (bi a2))]) hx hb dX7_movedBy_7 hl (by decide) rfl (fun ls hl => ?_)
  refine lv_iconst (v := 0) hx hb dX7_movedBy_9 (by decide) ?_
  refine lv_istore (lv' := [(7, .int ((0 : Int32))), (6, .int ((0 : Int32))), (5, .int ((1 : Int32))), (4, .int a0), (0, .ref (adr G 0)), (1, .int a0), (2, .int a1), (3, .int (bi a2))]) hx hb dX7_movedBy_10 hl (by decide) rfl (fun ls hl => ?_)
  obtain ⟨q12, q12h, h⟩ := bd_some h
  refine l_i_X7_movedBy_12 C  q12h ?_ _ _ _ hW (lv_sub hl [4, 6, 7, 3, 2, 1, 0] rfl)
  intro H locs ls hW hl
  refine lv_iload hx hb dX7_movedBy_141 (lv_at hl 0 rfl) ?_
  obtain rfl := Option.some.inj h
  exact K _ _ _ _ dX7_movedBy_143 hW
set_option maxRecDepth 100000 in
theorem c_X7_movedBy (l : Launch) (G : Geo) {S : St} {a0 : Int32} {a1 : Int32} {a2 : Bool} {o : Int32} (h : f_X7_movedBy S a0 a1 a2 = some o) : MI 18 eM G l yX7_movedBy cX7_movedBy 11 (some .int) 1 [.ref (adr G 0), .int a0, .int a1, .int (bi a2)] S o S :=
  mI_of (by decide +kernel) (Nat.le_of_ble_eq_true rfl) (fun p e s m below meth c A H0 Q C K => w_f_X7_movedBy C h K)
def i_X7_findFar_7 (S : St) (x1 : Int32) (x2 : Int32) : Option ((St × Int32) ⊕ (St × Int32)) :=
  if x1 ≤ x2 then (some (.inr (S, x2))) else (ck (okx x2 3125) <| some (.inl (up S 13 (ix x2) ((-9 : Int32)), x2 + (1 : Int32))))
set_option maxHeartbeats 4000000 in
set_option maxRecDepth 100000 in
theorem w_i_X7_findFar_7 {G : Geo} {p : Program} {l : Launch} {e : Env} {s : State} {m : MethodId} {args : Array Value} {below : List Frame} {meth : Method} {c : Code} {A : Nat → Prop} {H0 : Heap} {Q : State → Prop} (C : Cx G RX7 cX7_findFar 6 p s m args c) {S : St} {x1 : Int32} {x2 : Int32} {o : (St × Int32) ⊕ (St × Int32)} (h : i_X7_findFar_7 S x1 x2 = some o) (Kn : ∀ q, o = .inl q → ∀ (H : Heap) (locs : List Loc) (ls : Array Slot), HM G A H0 q.1 H locs → lv_has ls 6 [(0, .ref (adr G 0)), (1, .int x1), (2, .int (q.2))] → W p l e (rmK 2) s m args below meth c H locs 0 0 Q (F0 m 7 ls [])) (Kt : ∀ q, o = .inr q → ∀ (H : Heap) (locs : List Loc) (ls : Array Slot), HM G A H0 q.1 H locs → lv_has ls 6 [(0, .ref (adr G 0))] → W p l e (rmK 2) s m args below meth c H locs 0 0 Q (F0 m 26 ls [])) : ∀ (H : Heap) (locs : List Loc) (ls : Array Slot), HM G A H0 S H locs → lv_has ls 6 [(0, .ref (adr G 0)), (1, .int x1), (2, .int x2)] → W p l e (rmK 2) s m args below meth c H locs 0 0 Q (F0 m 7 ls []) := by
  obtain ⟨hx, hb, -⟩ := id C
  intro H locs ls hW hl
  unfold i_X7_findFar_7 at h
  refine lv_iload_n hx hb dX7_findFar_7 rfl (lv_at hl 2 rfl) ?_
  refine lv_iload_n hx hb dX7_findFar_8 rfl (lv_at hl 1 rfl) ?_
  refine lv_icmp_ge (tgt := 26) hx hb dX7_findFar_9 (by decide) (fun b9 => ?_) (fun b9 => ?_)
  · have h := it_t b9 h
    obtain rfl := Option.some.inj h
    exact Kt _ rfl _ _ _ hW (lv_sub hl [0] rfl)
  · have h := it_f b9 h
    refine lv_aload_n hx hb dX7_findFar_12 rfl (lv_at hl 0 rfl) ?_
    refine gf_RX7_46 C hW dX7_findFar_13 ?_
    refine lv_iload_n hx hb dX7_findFar_16 rfl (lv_at hl 2 rfl) ?_
    refine lv_bipush (v := (-9)) hx hb dX7_findFar_17 (by decide) ?_
    obtain ⟨g19, h⟩ := ck_some h
    refine x_iast C hW (k := 13) (n := 3125) (by decide) (fun _ => rfl) g19 dX7_findFar_19 (fun H locs hW => ?_)
    refine lv_iinc (v := (x2 + (1 : Int32))) (lv' := [(2, .int (x2 + (1 : Int32))), (0, .ref (adr G 0)), (1, .int x1)]) hx hb dX7_findFar_20 hl (k := 2) rfl rfl (by decide) rfl (fun ls hl => ?_)
    refine lv_goto (tgt := 7) hx hb dX7_findFar_23 (by decide) ?_
    obtain rfl := Option.some.inj h
    exact Kn _ rfl _ _ _ hW (lv_sub hl [1, 2, 0] rfl)
set_option maxHeartbeats 4000000 in
set_option maxRecDepth 100000 in
theorem l_i_X7_findFar_7 {G : Geo} {p : Program} {l : Launch} {e : Env} {s : State} {m : MethodId} {args : Array Value} {below : List Frame} {meth : Method} {c : Code} {A : Nat → Prop} {H0 : Heap} {Q : State → Prop} (C : Cx G RX7 cX7_findFar 6 p s m args c) {x1 : Int32} {n : Nat} {q0 : St × Int32} {u : St × Int32} (hq : iter (fun q : St × Int32 => i_X7_findFar_7 q.1 x1 q.2) n q0 = some u) (Kt : (fun q : St × Int32 => ∀ (H : Heap) (locs : List Loc) (ls : Array Slot), HM G A H0 q.1 H locs → lv_has ls 6 [(0, .ref (adr G 0))] → W p l e (rmK 2) s m args below meth c H locs 0 0 Q (F0 m 26 ls [])) u) : (fun q : St × Int32 => ∀ (H : Heap) (locs : List Loc) (ls : Array Slot), HM G A H0 q.1 H locs → lv_has ls 6 [(0, .ref (adr G 0)), (1, .int x1), (2, .int (q.2))] → W p l e (rmK 2) s m args below meth c H locs 0 0 Q (F0 m 7 ls [])) q0 :=
  iter_W (P := fun q : St × Int32 => ∀ (H : Heap) (locs : List Loc) (ls : Array Slot), HM G A H0 q.1 H locs → lv_has ls 6 [(0, .ref (adr G 0)), (1, .int x1), (2, .int (q.2))] → W p l e (rmK 2) s m args below meth c H locs 0 0 Q (F0 m 7 ls [])) (K := fun q : St × Int32 => ∀ (H : Heap) (locs : List Loc) (ls : Array Slot), HM G A H0 q.1 H locs → lv_has ls 6 [(0, .ref (adr G 0))] → W p l e (rmK 2) s m args below meth c H locs 0 0 Q (F0 m 26 ls [])) (fun q o hit Kn Kt => w_i_X7_findFar_7 C  hit Kn Kt) n q0 u hq Kt
def i_X7_findFar_52 (S : St) (x3 : Int32) (x2 : Int32) (x4 : Int32) : Option ((St × Int32 × Int32) ⊕ (St × Int32 × Int32)) :=
  if (S 0 6) ≤ x4 then (some (.inr (S, x2, x4))) else (ck (okx x3 3125) <| bd (f_X7_movedBy S (S 14 (ix x3)) x4 false) fun r71 => ck (okx r71 3125) <| if (S 13 (ix r71)) = ((-9 : Int32)) then (ck (okx x3 3125) <| ck (okx (S 14 (ix x3)) 3125) <| ck (okx r71 3125) <| ck (okx x2 3125) <| some (.inl (up (up S 13 (ix r71) ((S 13 (ix (S 14 (ix x3)))) + ((1 : Int32)))) 14 (ix x2) r71, x2 + (1 : Int32), x4 + (1 : Int32)))) else (some (.inl (S, x2, x4 + (1 : Int32)))))
set_option maxHeartbeats 4000000 in
set_option maxRecDepth 100000 in
theorem w_i_X7_findFar_52 {G : Geo} {p : Program} {l : Launch} {e : Env} {s : State} {m : MethodId} {args : Array Value} {below : List Frame} {meth : Method} {c : Code} {A : Nat → Prop} {H0 : Heap} {Q : State → Prop} (C : Cx G RX7 cX7_findFar 6 p s m args c) {S : St} {x3 : Int32} {x2 : Int32} {x4 : Int32} {o : (St × Int32 × Int32) ⊕ (St × Int32 × Int32)} (h : i_X7_findFar_52 S x3 x2 x4 = some o) (Kn : ∀ q, o = .inl q → ∀ (H : Heap) (locs : List Loc) (ls : Array Slot), HM G A H0 q.1 H locs → lv_has ls 6 [(0, .ref (adr G 0)), (2, .int (q.2.1)), (3, .int x3), (4, .int (q.2.2))] → W p l e (rmK 2) s m args below meth c H locs 0 0 Q (F0 m 52 ls [])) (Kt : ∀ q, o = .inr q → ∀ (H : Heap) (locs : List Loc) (ls : Array Slot), HM G A H0 q.1 H locs → lv_has ls 6 [(0, .ref (adr G 0)), (2, .int (q.2.1)), (3, .int x3)] → W p l e (rmK 2) s m args below meth c H locs 0 0 Q (F0 m 125 ls [])) : ∀ (H : Heap) (locs : List Loc) (ls : Array Slot), HM G A H0 S H locs → lv_has ls 6 [(0, .ref (adr G 0)), (2, .int x2), (3, .int x3), (4, .int x4)] → W p l e (rmK 2) s m args below meth c H locs 0 0 Q (F0 m 52 ls []) := by
  obtain ⟨hx, hb, -⟩ := id C
  intro H locs ls hW hl
  unfold i_X7_findFar_52 at h
  refine lv_iload hx hb dX7_findFar_52 (lv_at hl 3 rfl) ?_
  refine lv_aload_n hx hb dX7_findFar_54 rfl (lv_at hl 0 rfl) ?_
  refine gf_RX7_74 C hW dX7_findFar_55 ?_
  refine lv_icmp_ge (tgt := 125) hx hb dX7_findFar_58 (by decide) (fun b58 => ?_) (fun b58 => ?_)
  · have h := it_t b58 h
    obtain rfl := Option.some.inj h
    exact Kt _ rfl _ _ _ hW (lv_sub hl [0, 1, 2] rfl)
  · have h := it_f b58 h
    refine lv_aload_n hx hb dX7_findFar_61 rfl (lv_at hl 0 rfl) ?_
    refine lv_aload_n hx hb dX7_findFar_62 rfl (lv_at hl 0 rfl) ?_
    refine gf_RX7_49 C hW dX7_findFar_63 ?_
    refine lv_iload_n hx hb dX7_findFar_66 rfl (lv_at hl 2 rfl) ?_
    obtain ⟨g67, h⟩ := ck_some h
    refine x_iald C hW (k := 14) (n := 3125) (by decide) (fun _ => rfl) g67 dX7_findFar_67 ?_
    refine lv_iload hx hb dX7_findFar_68 (lv_at hl 3 rfl) ?_
    refine lv_iconst (v := 0) hx hb dX7_findFar_70 (by decide) ?_
    obtain ⟨r71, r71h, h⟩ := bd_some h
    refine x_backI hW (x_runV (As := [.int (S 14 (ix x3)), .int x4, .int (bi false)]) (rest := []) C hW (c_X7_movedBy l G r71h H.size) cv_RX7_178 rv_X7 hl.1 rfl rfl ⟨by decide, by decide⟩ (Nat.le_of_ble_eq_true rfl) ⟨Nat.zero_le _, Nat.zero_le _⟩ dX7_findFar_71) (fun H locs hW => ?_)
    refine lv_istore (lv' := [(5, .int r71), (0, .ref (adr G 0)), (2, .int x2), (3, .int x3), (4, .int x4)]) hx hb dX7_findFar_74 hl (by decide) rfl (fun ls hl => ?_)
    refine lv_aload_n hx hb dX7_findFar_76 rfl (lv_at hl 1 rfl) ?_
    refine gf_RX7_46 C hW dX7_findFar_77 ?_
    refine lv_iload hx hb dX7_findFar_80 (lv_at hl 0 rfl) ?_
    obtain ⟨g82, h⟩ := ck_some h
    refine x_iald C hW (k := 13) (n := 3125) (by decide) (fun _ => rfl) g82 dX7_findFar_82 ?_
    refine lv_bipush (v := (-9)) hx hb dX7_findFar_83 (by decide) ?_
    refine lv_icmp_ne (tgt := 119) hx hb dX7_findFar_85 (by decide) (fun b85 => ?_) (fun b85 => ?_)
    · have h := it_f b85 h
      refine lv_iinc (v := (x4 + (1 : Int32))) (lv' := [(4, .int (x4 + (1 : Int32))), (5, .int r71), (0, .ref (adr G 0)), (2, .int x2), (3, .int x3)]) hx hb dX7_findFar_119 hl (k := 4) rfl rfl (by decide) rfl (fun ls hl => ?_)
      refine lv_goto (tgt := 52) hx hb dX7_findFar_122 (by decide) ?_
      obtain rfl := Option.some.inj h
      exact Kn _ rfl _ _ _ hW (lv_sub hl [2, 3, 4, 0] rfl)
    · have h := it_t b85 h
      refine lv_aload_n hx hb dX7_findFar_88 rfl (lv_at hl 1 rfl) ?_
      refine gf_RX7_46 C hW dX7_findFar_89 ?_
      refine lv_iload hx hb dX7_findFar_92 (lv_at hl 0 rfl) ?_
      refine lv_aload_n hx hb dX7_findFar_94 rfl (lv_at hl 1 rfl) ?_
      refine gf_RX7_46 C hW dX7_findFar_95 ?_
      refine lv_aload_n hx hb dX7_findFar_98 rfl (lv_at hl 1 rfl) ?_
      refine gf_RX7_49 C hW dX7_findFar_99 ?_
      refine lv_iload_n hx hb dX7_findFar_102 rfl (lv_at hl 3 rfl) ?_
      obtain ⟨g103, h⟩ := ck_some h
      refine x_iald C hW (k := 14) (n := 3125) (by decide) (fun _ => rfl) g103 dX7_findFar_103 ?_
      obtain ⟨g104, h⟩ := ck_some h
      refine x_iald C hW (k := 13) (n := 3125) (by decide) (fun _ => rfl) g104 dX7_findFar_104 ?_
      refine lv_iconst (v := 1) hx hb dX7_findFar_105 (by decide) ?_
      refine lv_iadd hx hb dX7_findFar_106 ?_
      obtain ⟨g107, h⟩ := ck_some h
      refine x_iast C hW (k := 13) (n := 3125) (by decide) (fun _ => rfl) g107 dX7_findFar_107 (fun H locs hW => ?_)
      refine lv_aload_n hx hb dX7_findFar_108 rfl (lv_at hl 1 rfl) ?_
      refine gf_RX7_49 C hW dX7_findFar_109 ?_
      refine lv_iload_n hx hb dX7_findFar_112 rfl (lv_at hl 2 rfl) ?_
      refine lv_iload hx hb dX7_findFar_113 (lv_at hl 0 rfl) ?_
      obtain ⟨g115, h⟩ := ck_some h
      refine x_iast C hW (k := 14) (n := 3125) (by decide) (fun _ => rfl) g115 dX7_findFar_115 (fun H locs hW => ?_)
      refine lv_iinc (v := (x2 + (1 : Int32))) (lv' := [(2, .int (x2 + (1 : Int32))), (5, .int r71), (0, .ref (adr G 0)), (3, .int x3), (4, .int x4)]) hx hb dX7_findFar_116 hl (k := 2) rfl rfl (by decide) rfl (fun ls hl => ?_)
      refine lv_iinc (v := (x4 + (1 : Int32))) (lv' := [(4, .int (x4 + (1 : Int32))), (2, .int (x2 + (1 : Int32))), (5, .int r71), (0, .ref (adr G 0)), (3, .int x3)]) hx hb dX7_findFar_119 hl (k := 4) rfl rfl (by decide) rfl (fun ls hl => ?_)
      refine lv_goto (tgt := 52) hx hb dX7_findFar_122 (by decide) ?_
      obtain rfl := Option.some.inj h
      exact Kn _ rfl _ _ _ hW (lv_sub hl [3, 1, 4, 0] rfl)
set_option maxHeartbeats 4000000 in
set_option maxRecDepth 100000 in
theorem l_i_X7_findFar_52 {G : Geo} {p : Program} {l : Launch} {e : Env} {s : State} {m : MethodId} {args : Array Value} {below : List Frame} {meth : Method} {c : Code} {A : Nat → Prop} {H0 : Heap} {Q : State → Prop} (C : Cx G RX7 cX7_findFar 6 p s m args c) {x3 : Int32} {n : Nat} {q0 : St × Int32 × Int32} {u : St × Int32 × Int32} (hq : iter (fun q : St × Int32 × Int32 => i_X7_findFar_52 q.1 x3 q.2.1 q.2.2) n q0 = some u) (Kt : (fun q : St × Int32 × Int32 => ∀ (H : Heap) (locs : List Loc) (ls : Array Slot), HM G A H0 q.1 H locs → lv_has ls 6 [(0, .ref (adr G 0)), (2, .int (q.2.1)), (3, .int x3)] → W p l e (rmK 2) s m args below meth c H locs 0 0 Q (F0 m 125 ls [])) u) : (fun q : St × Int32 × Int32 => ∀ (H : Heap) (locs : List Loc) (ls : Array Slot), HM G A H0 q.1 H locs → lv_has ls 6 [(0, .ref (adr G 0)), (2, .int (q.2.1)), (3, .int x3), (4, .int (q.2.2))] → W p l e (rmK 2) s m args below meth c H locs 0 0 Q (F0 m 52 ls [])) q0 :=
  iter_W (P := fun q : St × Int32 × Int32 => ∀ (H : Heap) (locs : List Loc) (ls : Array Slot), HM G A H0 q.1 H locs → lv_has ls 6 [(0, .ref (adr G 0)), (2, .int (q.2.1)), (3, .int x3), (4, .int (q.2.2))] → W p l e (rmK 2) s m args below meth c H locs 0 0 Q (F0 m 52 ls [])) (K := fun q : St × Int32 × Int32 => ∀ (H : Heap) (locs : List Loc) (ls : Array Slot), HM G A H0 q.1 H locs → lv_has ls 6 [(0, .ref (adr G 0)), (2, .int (q.2.1)), (3, .int x3)] → W p l e (rmK 2) s m args below meth c H locs 0 0 Q (F0 m 125 ls [])) (fun q o hit Kn Kt => w_i_X7_findFar_52 C  hit Kn Kt) n q0 u hq Kt
def i_X7_findFar_44 (S : St) (x2 : Int32) (x3 : Int32) : Option ((St × Int32 × Int32) ⊕ (St × Int32 × Int32)) :=
  if x2 ≤ x3 then (some (.inr (S, x2, x3))) else (bd (iter (fun q => i_X7_findFar_52 q.1 x3 q.2.1 q.2.2) BIG (S, x2, (0 : Int32))) fun q52 => some (.inl (q52.1, q52.2.1, x3 + (1 : Int32))))
set_option maxHeartbeats 4000000 in
set_option maxRecDepth 100000 in
theorem w_i_X7_findFar_44 {G : Geo} {p : Program} {l : Launch} {e : Env} {s : State} {m : MethodId} {args : Array Value} {below : List Frame} {meth : Method} {c : Code} {A : Nat → Prop} {H0 : Heap} {Q : State → Prop} (C : Cx G RX7 cX7_findFar 6 p s m args c) {S : St} {x2 : Int32} {x3 : Int32} {o : (St × Int32 × Int32) ⊕ (St × Int32 × Int32)} (h : i_X7_findFar_44 S x2 x3 = some o) (Kn : ∀ q, o = .inl q → ∀ (H : Heap) (locs : List Loc) (ls : Array Slot), HM G A H0 q.1 H locs → lv_has ls 6 [(0, .ref (adr G 0)), (2, .int (q.2.1)), (3, .int (q.2.2))] → W p l e (rmK 2) s m args below meth c H locs 0 0 Q (F0 m 44 ls [])) (Kt : ∀ q, o = .inr q → ∀ (H : Heap) (locs : List Loc) (ls : Array Slot), HM G A H0 q.1 H locs → lv_has ls 6 [] → W p l e (rmK 2) s m args below meth c H locs 0 0 Q (F0 m 131 ls [])) : ∀ (H : Heap) (locs : List Loc) (ls : Array Slot), HM G A H0 S H locs → lv_has ls 6 [(0, .ref (adr G 0)), (2, .int x2), (3, .int x3)] → W p l e (rmK 2) s m args below meth c H locs 0 0 Q (F0 m 44 ls []) := by
  obtain ⟨hx, hb, -⟩ := id C
  intro H locs ls hW hl
  unfold i_X7_findFar_44 at h
  refine lv_iload_n hx hb dX7_findFar_44 rfl (lv_at hl 2 rfl) ?_
  refine lv_iload_n hx hb dX7_findFar_45 rfl (lv_at hl 1 rfl) ?_
  refine lv_icmp_ge (tgt := 131) hx hb dX7_findFar_46 (by decide) (fun b46 => ?_) (fun b46 => ?_)
  · have h := it_t b46 h
    obtain rfl := Option.some.inj h
    exact Kt _ rfl _ _ _ hW (lv_sub hl [] rfl)
  · have h := it_f b46 h
    refine lv_iconst (v := 0) hx hb dX7_findFar_49 (by decide) ?_
    refine lv_istore (lv' := [(4, .int ((0 : Int32))), (0, .ref (adr G 0)), (2, .int x2), (3, .int x3)]) hx hb dX7_findFar_50 hl (by decide) rfl (fun ls hl => ?_)
    obtain ⟨q52, q52h, h⟩ := bd_some h
    refine l_i_X7_findFar_52 C  q52h ?_ _ _ _ hW (lv_sub hl [1, 2, 3, 0] rfl)
    intro H locs ls hW hl
    refine lv_iinc (v := (x3 + (1 : Int32))) (lv' := [(3, .int (x3 + (1 : Int32))), (0, .ref (adr G 0)), (2, .int (q52.2.1))]) hx hb dX7_findFar_125 hl (k := 2) rfl rfl (by decide) rfl (fun ls hl => ?_)
    refine lv_goto (tgt := 44) hx hb dX7_findFar_128 (by decide) ?_
    obtain rfl := Option.some.inj h
    exact Kn _ rfl _ _ _ hW (lv_sub hl [1, 2, 0] rfl)
set_option maxHeartbeats 4000000 in
set_option maxRecDepth 100000 in
theorem l_i_X7_findFar_44 {G : Geo} {p : Program} {l : Launch} {e : Env} {s : State} {m : MethodId} {args : Array Value} {below : List Frame} {meth : Method} {c : Code} {A : Nat → Prop} {H0 : Heap} {Q : State → Prop} (C : Cx G RX7 cX7_findFar 6 p s m args c)  {n : Nat} {q0 : St × Int32 × Int32} {u : St × Int32 × Int32} (hq : iter (fun q : St × Int32 × Int32 => i_X7_findFar_44 q.1 q.2.1 q.2.2) n q0 = some u) (Kt : (fun q : St × Int32 × Int32 => ∀ (H : Heap) (locs : List Loc) (ls : Array Slot), HM G A H0 q.1 H locs → lv_has ls 6 [] → W p l e (rmK 2) s m args below meth c H locs 0 0 Q (F0 m 131 ls [])) u) : (fun q : St × Int32 × Int32 => ∀ (H : Heap) (locs : List Loc) (ls : Array Slot), HM G A H0 q.1 H locs → lv_has ls 6 [(0, .ref (adr G 0)), (2, .int (q.2.1)), (3, .int (q.2.2))] → W p l e (rmK 2) s m args below meth c H locs 0 0 Q (F0 m 44 ls [])) q0 :=
  iter_W (P := fun q : St × Int32 × Int32 => ∀ (H : Heap) (locs : List Loc) (ls : Array Slot), HM G A H0 q.1 H locs → lv_has ls 6 [(0, .ref (adr G 0)), (2, .int (q.2.1)), (3, .int (q.2.2))] → W p l e (rmK 2) s m args below meth c H locs 0 0 Q (F0 m 44 ls [])) (K := fun q : St × Int32 × Int32 => ∀ (H : Heap) (locs : List Loc) (ls : Array Slot), HM G A H0 q.1 H locs → lv_has ls 6 [] → W p l e (rmK 2) s m args below meth c H locs 0 0 Q (F0 m 131 ls [])) (fun q o hit Kn Kt => w_i_X7_findFar_44 C  hit Kn Kt) n q0 u hq Kt
def f_X7_findFar (S : St) : Option (St) :=
  bd (f_X7_manyOf S) fun r1 => bd (iter (fun q => i_X7_findFar_7 q.1 r1 q.2) BIG (S, (0 : Int32))) fun q7 => ck (okx ((0 : Int32)) 3125) <| ck (okx ((0 : Int32)) 3125) <| bd (iter (fun q => i_X7_findFar_44 q.1 q.2.1 q.2.2) BIG (up (up q7.1 13 (ix ((0 : Int32))) ((0 : Int32))) 14 (ix ((0 : Int32))) ((0 : Int32)), (1 : Int32), (0 : Int32))) fun q44 => some q44.1
set_option maxHeartbeats 4000000 in
set_option maxRecDepth 100000 in
theorem w_f_X7_findFar {G : Geo} {p : Program} {l : Launch} {e : Env} {s : State} {m : MethodId} {args : Array Value} {below : List Frame} {meth : Method} {c : Code} {A : Nat → Prop} {H0 : Heap} {Q : State → Prop} (C : Cx G RX7 cX7_findFar 6 p s m args c) {S : St}  {o : St} (h : f_X7_findFar S = some o) (K : KV 18 eM G A H0 cX7_findFar p l e 2 s m args below meth c Q o) : ∀ (H : Heap) (locs : List Loc) (ls : Array Slot), HM G A H0 S H locs → lv_has ls 6 [(0, .ref (adr G 0))] → W p l e (rmK 2) s m args below meth c H locs 0 0 Q (F0 m 0 ls []) := by
  obtain ⟨hx, hb, -⟩ := id C
  intro H locs ls hW hl
  unfold f_X7_findFar at h
  refine lv_aload_n hx hb dX7_findFar_0 rfl (lv_at hl 0 rfl) ?_
  obtain ⟨r1, r1h, h⟩ := bd_some h
  refine x_backI hW (x_runV (As := []) (rest := []) C hW (c_X7_manyOf l G r1h H.size) cv_RX7_175 rv_X7 hl.1 rfl rfl ⟨by decide, by decide⟩ (Nat.le_of_ble_eq_true rfl) ⟨Nat.zero_le _, Nat.zero_le _⟩ dX7_findFar_1) (fun H locs hW => ?_)
  refine lv_istore_n (lv' := [(1, .int r1), (0, .ref (adr G 0))]) hx hb dX7_findFar_4 rfl hl (by decide) rfl (fun ls hl => ?_)
  refine lv_iconst (v := 0) hx hb dX7_findFar_5 (by decide) ?_
  refine lv_istore_n (lv' := [(2, .int ((0 : Int32))), (1, .int r1), (0, .ref (adr G 0))]) hx hb dX7_findFar_6 rfl hl (by decide) rfl (fun ls hl => ?_)
  obtain ⟨q7, q7h, h⟩ := bd_some h
  refine l_i_X7_findFar_7 C  q7h ?_ _ _ _ hW (lv_sub hl [2, 1, 0] rfl)
  intro H locs ls hW hl
  refine lv_aload_n hx hb dX7_findFar_26 rfl (lv_at hl 0 rfl) ?_
  refine gf_RX7_46 C hW dX7_findFar_27 ?_
  refine lv_iconst (v := 0) hx hb dX7_findFar_30 (by decide) ?_
  refine lv_iconst (v := 0) hx hb dX7_findFar_31 (by decide) ?_
  obtain ⟨g32, h⟩ := ck_some h
  refine x_iast C hW (k := 13) (n := 3125) (by decide) (fun _ => rfl) g32 dX7_findFar_32 (fun H locs hW => ?_)
  refine lv_aload_n hx hb dX7_findFar_33 rfl (lv_at hl 0 rfl) ?_
  refine gf_RX7_49 C hW dX7_findFar_34 ?_
  refine lv_iconst (v := 0) hx hb dX7_findFar_37 (by decide) ?_
  refine lv_iconst (v := 0) hx hb dX7_findFar_38 (by decide) ?_
  obtain ⟨g39, h⟩ := ck_some h
  refine x_iast C hW (k := 14) (n := 3125) (by decide) (fun _ => rfl) g39 dX7_findFar_39 (fun H locs hW => ?_)
  refine lv_iconst (v := 1) hx hb dX7_findFar_40 (by decide) ?_
  refine lv_istore_n (lv' := [(2, .int ((1 : Int32))), (0, .ref (adr G 0))]) hx hb dX7_findFar_41 rfl hl (by decide) rfl (fun ls hl => ?_)
  refine lv_iconst (v := 0) hx hb dX7_findFar_42 (by decide) ?_
  refine lv_istore_n (lv' := [(3, .int ((0 : Int32))), (2, .int ((1 : Int32))), (0, .ref (adr G 0))]) hx hb dX7_findFar_43 rfl hl (by decide) rfl (fun ls hl => ?_)
  obtain ⟨q44, q44h, h⟩ := bd_some h
  refine l_i_X7_findFar_44 C  q44h ?_ _ _ _ hW (lv_sub hl [2, 1, 0] rfl)
  intro H locs ls hW hl
  obtain rfl := Option.some.inj h
  exact K _ _ _ _ dX7_findFar_131 hW
set_option maxRecDepth 100000 in
theorem c_X7_findFar (l : Launch) (G : Geo) {S : St}  {o : St} (h : f_X7_findFar S = some o) : MV 18 eM G l yX7_findFar cX7_findFar 6 none 2 [.ref (adr G 0)] S o :=
  mV_of (by decide +kernel) (Nat.le_of_ble_eq_true rfl) (fun p e s m below meth c A H0 Q C K => w_f_X7_findFar C h K)
def i_X7_alone_18 (S : St) (x1 : Int32) (x2 : Int32) (x3 : Int32) : Option ((Int32 × Int32) ⊕ (Int32 × Int32)) :=
  if x1 ≤ x3 then (some (.inr (x2, x3))) else (ck (okx x3 5) <| some (.inl (x2 * (S 4 (ix x3)), x3 + (1 : Int32))))
set_option maxHeartbeats 4000000 in
set_option maxRecDepth 100000 in
theorem w_i_X7_alone_18 {G : Geo} {p : Program} {l : Launch} {e : Env} {s : State} {m : MethodId} {args : Array Value} {below : List Frame} {meth : Method} {c : Code} {A : Nat → Prop} {H0 : Heap} {Q : State → Prop} (C : Cx G RX7 cX7_alone 4 p s m args c) {S : St} {x1 : Int32} {x2 : Int32} {x3 : Int32} {o : (Int32 × Int32) ⊕ (Int32 × Int32)} (h : i_X7_alone_18 S x1 x2 x3 = some o) (Kn : ∀ q, o = .inl q → ∀ (H : Heap) (locs : List Loc) (ls : Array Slot), HM G A H0 S H locs → lv_has ls 4 [(0, .ref (adr G 0)), (1, .int x1), (2, .int (q.1)), (3, .int (q.2))] → W p l e (rmK 3) s m args below meth c H locs 0 0 Q (F0 m 18 ls [])) (Kt : ∀ q, o = .inr q → ∀ (H : Heap) (locs : List Loc) (ls : Array Slot), HM G A H0 S H locs → lv_has ls 4 [(0, .ref (adr G 0)), (2, .int (q.1))] → W p l e (rmK 3) s m args below meth c H locs 0 0 Q (F0 m 38 ls [])) : ∀ (H : Heap) (locs : List Loc) (ls : Array Slot), HM G A H0 S H locs → lv_has ls 4 [(0, .ref (adr G 0)), (1, .int x1), (2, .int x2), (3, .int x3)] → W p l e (rmK 3) s m args below meth c H locs 0 0 Q (F0 m 18 ls []) := by
  obtain ⟨hx, hb, -⟩ := id C
  intro H locs ls hW hl
  unfold i_X7_alone_18 at h
  refine lv_iload_n hx hb dX7_alone_18 rfl (lv_at hl 3 rfl) ?_
  refine lv_iload_n hx hb dX7_alone_19 rfl (lv_at hl 1 rfl) ?_
  refine lv_icmp_ge (tgt := 38) hx hb dX7_alone_20 (by decide) (fun b20 => ?_) (fun b20 => ?_)
  · have h := it_t b20 h
    obtain rfl := Option.some.inj h
    exact Kt _ rfl _ _ _ hW (lv_sub hl [0, 2] rfl)
  · have h := it_f b20 h
    refine lv_iload_n hx hb dX7_alone_23 rfl (lv_at hl 2 rfl) ?_
    refine lv_aload_n hx hb dX7_alone_24 rfl (lv_at hl 0 rfl) ?_
    refine gf_RX7_19 C hW dX7_alone_25 ?_
    refine lv_iload_n hx hb dX7_alone_28 rfl (lv_at hl 3 rfl) ?_
    obtain ⟨g29, h⟩ := ck_some h
    refine x_iald C hW (k := 4) (n := 5) (by decide) (fun _ => rfl) g29 dX7_alone_29 ?_
    refine lv_imul hx hb dX7_alone_30 ?_
    refine lv_istore_n (lv' := [(2, .int (x2 * (S 4 (ix x3)))), (0, .ref (adr G 0)), (1, .int x1), (3, .int x3)]) hx hb dX7_alone_31 rfl hl (by decide) rfl (fun ls hl => ?_)
    refine lv_iinc (v := (x3 + (1 : Int32))) (lv' := [(3, .int (x3 + (1 : Int32))), (2, .int (x2 * (S 4 (ix x3)))), (0, .ref (adr G 0)), (1, .int x1)]) hx hb dX7_alone_32 hl (k := 3) rfl rfl (by decide) rfl (fun ls hl => ?_)
    refine lv_goto (tgt := 18) hx hb dX7_alone_35 (by decide) ?_
    obtain rfl := Option.some.inj h
    exact Kn _ rfl _ _ _ hW (lv_sub hl [2, 3, 1, 0] rfl)
set_option maxHeartbeats 4000000 in
set_option maxRecDepth 100000 in
theorem l_i_X7_alone_18 {G : Geo} {p : Program} {l : Launch} {e : Env} {s : State} {m : MethodId} {args : Array Value} {below : List Frame} {meth : Method} {c : Code} {A : Nat → Prop} {H0 : Heap} {Q : State → Prop} (C : Cx G RX7 cX7_alone 4 p s m args c) {S : St} {x1 : Int32} {n : Nat} {q0 : Int32 × Int32} {u : Int32 × Int32} (hq : iter (fun q : Int32 × Int32 => i_X7_alone_18 S x1 q.1 q.2) n q0 = some u) (Kt : (fun q : Int32 × Int32 => ∀ (H : Heap) (locs : List Loc) (ls : Array Slot), HM G A H0 S H locs → lv_has ls 4 [(0, .ref (adr G 0)), (2, .int (q.1))] → W p l e (rmK 3) s m args below meth c H locs 0 0 Q (F0 m 38 ls [])) u) : (fun q : Int32 × Int32 => ∀ (H : Heap) (locs : List Loc) (ls : Array Slot), HM G A H0 S H locs → lv_has ls 4 [(0, .ref (adr G 0)), (1, .int x1), (2, .int (q.1)), (3, .int (q.2))] → W p l e (rmK 3) s m args below meth c H locs 0 0 Q (F0 m 18 ls [])) q0 :=
  iter_W (P := fun q : Int32 × Int32 => ∀ (H : Heap) (locs : List Loc) (ls : Array Slot), HM G A H0 S H locs → lv_has ls 4 [(0, .ref (adr G 0)), (1, .int x1), (2, .int (q.1)), (3, .int (q.2))] → W p l e (rmK 3) s m args below meth c H locs 0 0 Q (F0 m 18 ls [])) (K := fun q : Int32 × Int32 => ∀ (H : Heap) (locs : List Loc) (ls : Array Slot), HM G A H0 S H locs → lv_has ls 4 [(0, .ref (adr G 0)), (2, .int (q.1))] → W p l e (rmK 3) s m args below meth c H locs 0 0 Q (F0 m 38 ls [])) (fun q o hit Kn Kt => w_i_X7_alone_18 C  hit Kn Kt) n q0 u hq Kt
def f_X7_alone (S : St) (a0 : Int32) : Option (Int32 × St) :=
  bd (f_X7_isLamp S a0) fun r2 => if r2 = true then (bd (f_X7_findFar S) fun r11 => bd (iter (fun q => i_X7_alone_18 r11 a0 q.1 q.2) BIG ((1 : Int32), (0 : Int32))) fun q18 => ck (okx q18.1 3125) <| some (r11 13 (ix q18.1), r11)) else (some ((-1 : Int32), S))
set_option maxHeartbeats 4000000 in
set_option maxRecDepth 100000 in
theorem w_f_X7_alone {G : Geo} {p : Program} {l : Launch} {e : Env} {s : State} {m : MethodId} {args : Array Value} {below : List Frame} {meth : Method} {c : Code} {A : Nat → Prop} {H0 : Heap} {Q : State → Prop} (C : Cx G RX7 cX7_alone 4 p s m args c) {S : St} {a0 : Int32} {o : Int32 × St} (h : f_X7_alone S a0 = some o) (K : KI 18 eM G A H0 cX7_alone p l e 3 s m args below meth c Q ((o).1) ((o).2)) : ∀ (H : Heap) (locs : List Loc) (ls : Array Slot), HM G A H0 S H locs → lv_has ls 4 [(0, .ref (adr G 0)), (1, .int a0)] → W p l e (rmK 3) s m args below meth c H locs 0 0 Q (F0 m 0 ls []) := by
  obtain ⟨hx, hb, -⟩ := id C
  intro H locs ls hW hl
  unfold f_X7_alone at h
  refine lv_aload_n hx hb dX7_alone_0 rfl (lv_at hl 0 rfl) ?_
  refine lv_iload_n hx hb dX7_alone_1 rfl (lv_at hl 1 rfl) ?_
  obtain ⟨r2, r2h, h⟩ := bd_some h
  refine x_backI hW (x_runV (As := [.int a0]) (rest := []) C hW (c_X7_isLamp l G r2h H.size) cv_RX7_127 rv_X7 hl.1 rfl rfl ⟨by decide, by decide⟩ (Nat.le_of_ble_eq_true rfl) ⟨Nat.zero_le _, Nat.zero_le _⟩ dX7_alone_2) (fun H locs hW => ?_)
  refine z_if_ne (tgt := 10) hx hb dX7_alone_5 (by decide) (fun b5 => ?_) (fun b5 => ?_)
  · have h := it_t b5 h
    refine lv_aload_n hx hb dX7_alone_10 rfl (lv_at hl 0 rfl) ?_
    obtain ⟨r11, r11h, h⟩ := bd_some h
    refine x_backV hW (x_runV (As := []) (rest := []) C hW (c_X7_findFar l G r11h H.size) cv_RX7_182 rv_X7 hl.1 rfl rfl ⟨by decide, by decide⟩ (Nat.le_of_ble_eq_true rfl) ⟨Nat.zero_le _, Nat.zero_le _⟩ dX7_alone_11) (fun H locs hW => ?_)
    refine lv_iconst (v := 1) hx hb dX7_alone_14 (by decide) ?_
    refine lv_istore_n (lv' := [(2, .int ((1 : Int32))), (0, .ref (adr G 0)), (1, .int a0)]) hx hb dX7_alone_15 rfl hl (by decide) rfl (fun ls hl => ?_)
    refine lv_iconst (v := 0) hx hb dX7_alone_16 (by decide) ?_
    refine lv_istore_n (lv' := [(3, .int ((0 : Int32))), (2, .int ((1 : Int32))), (0, .ref (adr G 0)), (1, .int a0)]) hx hb dX7_alone_17 rfl hl (by decide) rfl (fun ls hl => ?_)
    obtain ⟨q18, q18h, h⟩ := bd_some h
    refine l_i_X7_alone_18 C  q18h ?_ _ _ _ hW (lv_sub hl [2, 3, 1, 0] rfl)
    intro H locs ls hW hl
    refine lv_aload_n hx hb dX7_alone_38 rfl (lv_at hl 0 rfl) ?_
    refine gf_RX7_46 C hW dX7_alone_39 ?_
    refine lv_iload_n hx hb dX7_alone_42 rfl (lv_at hl 1 rfl) ?_
    obtain ⟨g43, h⟩ := ck_some h
    refine x_iald C hW (k := 13) (n := 3125) (by decide) (fun _ => rfl) g43 dX7_alone_43 ?_
    obtain rfl := Option.some.inj h
    exact K _ _ _ _ dX7_alone_44 hW
  · have h := it_f b5 h
    refine lv_iconst (v := (-1)) hx hb dX7_alone_8 (by decide) ?_
    obtain rfl := Option.some.inj h
    exact K _ _ _ _ dX7_alone_9 hW
set_option maxRecDepth 100000 in
theorem c_X7_alone (l : Launch) (G : Geo) {S : St} {a0 : Int32} {o : Int32 × St} (h : f_X7_alone S a0 = some o) : MI 18 eM G l yX7_alone cX7_alone 4 (some .int) 3 [.ref (adr G 0), .int a0] S o.1 o.2 :=
  mI_of (by decide +kernel) (Nat.le_of_ble_eq_true rfl) (fun p e s m below meth c A H0 Q C K => w_f_X7_alone C h K)
def j_X7_areSo_53 (S : St) (x1 : Int32) (y0 : Int32) : Option ((Int32) ⊕ ((Int32) ⊕ (Bool))) :=
  ck (okx x1 8) <| if y0 = (S 17 (ix x1)) then (some (.inl (x1 + (1 : Int32)))) else (some (.inr (.inr false)))
set_option maxHeartbeats 4000000 in
set_option maxRecDepth 100000 in
theorem w_j_X7_areSo_53 {G : Geo} {p : Program} {l : Launch} {e : Env} {s : State} {m : MethodId} {args : Array Value} {below : List Frame} {meth : Method} {c : Code} {A : Nat → Prop} {H0 : Heap} {Q : State → Prop} (C : Cx G RX7 cX7_areSo 5 p s m args c) {S : St} {x1 : Int32} {y0 : Int32} {o : (Int32) ⊕ ((Int32) ⊕ (Bool))} (h : j_X7_areSo_53 S x1 y0 = some o) (Kn : ∀ q, o = .inl q → ∀ (H : Heap) (locs : List Loc) (ls : Array Slot), HM G A H0 S H locs → lv_has ls 5 [(0, .ref (adr G 0)), (1, .int q)] → W p l e (rmK 1) s m args below meth c H locs 0 0 Q (F0 m 2 ls [])) (Kt : ∀ u, o = .inr u → (∀ q, u = .inl q → ∀ (H : Heap) (locs : List Loc) (ls : Array Slot), HM G A H0 S H locs → lv_has ls 5 [] → W p l e (rmK 1) s m args below meth c H locs 0 0 Q (F0 m 74 ls [])) ∧ (∀ r, u = .inr r → KI 18 eM G A H0 cX7_areSo p l e 1 s m args below meth c Q (bi r) S)) : ∀ (H : Heap) (locs : List Loc) (ls : Array Slot), HM G A H0 S H locs → lv_has ls 5 [(0, .ref (adr G 0)), (1, .int x1)] → W p l e (rmK 1) s m args below meth c H locs 0 0 Q (F0 m 53 ls [.int y0]) := by
  obtain ⟨hx, hb, -⟩ := id C
  intro H locs ls hW hl
  unfold j_X7_areSo_53 at h
  refine lv_istore (lv' := [(4, .int y0), (0, .ref (adr G 0)), (1, .int x1)]) hx hb dX7_areSo_53 hl (by decide) rfl (fun ls hl => ?_)
  refine lv_iload hx hb dX7_areSo_55 (lv_at hl 0 rfl) ?_
  refine lv_aload_n hx hb dX7_areSo_57 rfl (lv_at hl 1 rfl) ?_
  refine gf_RX7_58 C hW dX7_areSo_58 ?_
  refine lv_iload_n hx hb dX7_areSo_61 rfl (lv_at hl 2 rfl) ?_
  obtain ⟨g62, h⟩ := ck_some h
  refine x_iald C hW (k := 17) (n := 8) (by decide) (fun _ => rfl) g62 dX7_areSo_62 ?_
  refine lv_icmp_eq (tgt := 68) hx hb dX7_areSo_63 (by decide) (fun b63 => ?_) (fun b63 => ?_)
  · have h := it_t b63 h
    refine lv_iinc (v := (x1 + (1 : Int32))) (lv' := [(1, .int (x1 + (1 : Int32))), (4, .int y0), (0, .ref (adr G 0))]) hx hb dX7_areSo_68 hl (k := 2) rfl rfl (by decide) rfl (fun ls hl => ?_)
    refine lv_goto (tgt := 2) hx hb dX7_areSo_71 (by decide) ?_
    obtain rfl := Option.some.inj h
    exact Kn _ rfl _ _ _ hW (lv_sub hl [2, 0] rfl)
  · have h := it_f b63 h
    refine lv_iconst (v := 0) hx hb dX7_areSo_66 (by decide) ?_
    obtain rfl := Option.some.inj h
    exact (Kt _ rfl).2 _ rfl _ _ _ _ dX7_areSo_67 hW
def i_X7_areSo_2 (S : St) (x1 : Int32) : Option ((Int32) ⊕ ((Int32) ⊕ (Bool))) :=
  if (S 0 24) ≤ x1 then (some (.inr (.inl x1))) else (ck (okx x1 8) <| ck (okx x1 8) <| ck (okx (S 15 (ix x1)) 5) <| bd (f_X7_isOf (S 8 (ix (S 15 (ix x1)))) (S 16 (ix x1))) fun r31 => if r31 = false then (j_X7_areSo_53 S x1 ((0 : Int32))) else (bd (f_X7_movesOf S (S 15 (ix x1))) fun r39 => ck (okx (S 16 (ix x1)) 5) <| ck (¬ (S 4 (ix (S 16 (ix x1)))) = 0) <| j_X7_areSo_53 S x1 (rem32 r39 (S 4 (ix (S 16 (ix x1)))))))
set_option maxHeartbeats 4000000 in
set_option maxRecDepth 100000 in
theorem w_i_X7_areSo_2 {G : Geo} {p : Program} {l : Launch} {e : Env} {s : State} {m : MethodId} {args : Array Value} {below : List Frame} {meth : Method} {c : Code} {A : Nat → Prop} {H0 : Heap} {Q : State → Prop} (C : Cx G RX7 cX7_areSo 5 p s m args c) {S : St} {x1 : Int32} {o : (Int32) ⊕ ((Int32) ⊕ (Bool))} (h : i_X7_areSo_2 S x1 = some o) (Kn : ∀ q, o = .inl q → ∀ (H : Heap) (locs : List Loc) (ls : Array Slot), HM G A H0 S H locs → lv_has ls 5 [(0, .ref (adr G 0)), (1, .int q)] → W p l e (rmK 1) s m args below meth c H locs 0 0 Q (F0 m 2 ls [])) (Kt : ∀ u, o = .inr u → (∀ q, u = .inl q → ∀ (H : Heap) (locs : List Loc) (ls : Array Slot), HM G A H0 S H locs → lv_has ls 5 [] → W p l e (rmK 1) s m args below meth c H locs 0 0 Q (F0 m 74 ls [])) ∧ (∀ r, u = .inr r → KI 18 eM G A H0 cX7_areSo p l e 1 s m args below meth c Q (bi r) S)) : ∀ (H : Heap) (locs : List Loc) (ls : Array Slot), HM G A H0 S H locs → lv_has ls 5 [(0, .ref (adr G 0)), (1, .int x1)] → W p l e (rmK 1) s m args below meth c H locs 0 0 Q (F0 m 2 ls []) := by
  obtain ⟨hx, hb, -⟩ := id C
  intro H locs ls hW hl
  unfold i_X7_areSo_2 at h
  refine lv_iload_n hx hb dX7_areSo_2 rfl (lv_at hl 1 rfl) ?_
  refine lv_aload_n hx hb dX7_areSo_3 rfl (lv_at hl 0 rfl) ?_
  refine gf_RX7_110 C hW dX7_areSo_4 ?_
  refine lv_icmp_ge (tgt := 74) hx hb dX7_areSo_7 (by decide) (fun b7 => ?_) (fun b7 => ?_)
  · have h := it_t b7 h
    obtain rfl := Option.some.inj h
    exact (Kt _ rfl).1 _ rfl _ _ _ hW (lv_sub hl [] rfl)
  · have h := it_f b7 h
    refine lv_aload_n hx hb dX7_areSo_10 rfl (lv_at hl 0 rfl) ?_
    refine gf_RX7_52 C hW dX7_areSo_11 ?_
    refine lv_iload_n hx hb dX7_areSo_14 rfl (lv_at hl 1 rfl) ?_
    obtain ⟨g15, h⟩ := ck_some h
    refine x_iald C hW (k := 15) (n := 8) (by decide) (fun _ => rfl) g15 dX7_areSo_15 ?_
    refine lv_istore_n (lv' := [(2, .int (S 15 (ix x1))), (0, .ref (adr G 0)), (1, .int x1)]) hx hb dX7_areSo_16 rfl hl (by decide) rfl (fun ls hl => ?_)
    refine lv_aload_n hx hb dX7_areSo_17 rfl (lv_at hl 1 rfl) ?_
    refine gf_RX7_55 C hW dX7_areSo_18 ?_
    refine lv_iload_n hx hb dX7_areSo_21 rfl (lv_at hl 2 rfl) ?_
    obtain ⟨g22, h⟩ := ck_some h
    refine x_iald C hW (k := 16) (n := 8) (by decide) (fun _ => rfl) g22 dX7_areSo_22 ?_
    refine lv_istore_n (lv' := [(3, .int (S 16 (ix x1))), (2, .int (S 15 (ix x1))), (0, .ref (adr G 0)), (1, .int x1)]) hx hb dX7_areSo_23 rfl hl (by decide) rfl (fun ls hl => ?_)
    refine lv_aload_n hx hb dX7_areSo_24 rfl (lv_at hl 2 rfl) ?_
    refine gf_RX7_31 C hW dX7_areSo_25 ?_
    refine lv_iload_n hx hb dX7_areSo_28 rfl (lv_at hl 1 rfl) ?_
    obtain ⟨g29, h⟩ := ck_some h
    refine x_iald C hW (k := 8) (n := 5) (by decide) (fun _ => rfl) g29 dX7_areSo_29 ?_
    refine lv_iload_n hx hb dX7_areSo_30 rfl (lv_at hl 0 rfl) ?_
    obtain ⟨r31, r31h, h⟩ := bd_some h
    refine x_backI hW (x_runS (As := [.int (S 8 (ix (S 15 (ix x1)))), .int (S 16 (ix x1))]) (rest := []) C hW (c_X7_isOf l G (S := S) r31h H.size) cs_RX7_124 hl.1 rfl rfl ⟨by decide, by decide⟩ (Nat.le_of_ble_eq_true rfl) ⟨Nat.zero_le _, Nat.zero_le _⟩ dX7_areSo_31) (fun H locs hW => ?_)
    refine z_if_eq (tgt := 52) hx hb dX7_areSo_34 (by decide) (fun b34 => ?_) (fun b34 => ?_)
    · have h := it_t b34 h
      refine lv_iconst (v := 0) hx hb dX7_areSo_52 (by decide) ?_
      exact w_j_X7_areSo_53 C  h Kn Kt _ _ _ hW (lv_sub hl [2, 3] rfl)
    · have h := it_f b34 h
      refine lv_aload_n hx hb dX7_areSo_37 rfl (lv_at hl 2 rfl) ?_
      refine lv_iload_n hx hb dX7_areSo_38 rfl (lv_at hl 1 rfl) ?_
      obtain ⟨r39, r39h, h⟩ := bd_some h
      refine x_backI hW (x_runV (As := [.int (S 15 (ix x1))]) (rest := []) C hW (c_X7_movesOf l G r39h H.size) cv_RX7_136 rv_X7 hl.1 rfl rfl ⟨by decide, by decide⟩ (Nat.le_of_ble_eq_true rfl) ⟨Nat.zero_le _, Nat.zero_le _⟩ dX7_areSo_39) (fun H locs hW => ?_)
      refine lv_aload_n hx hb dX7_areSo_42 rfl (lv_at hl 2 rfl) ?_
      refine gf_RX7_19 C hW dX7_areSo_43 ?_
      refine lv_iload_n hx hb dX7_areSo_46 rfl (lv_at hl 0 rfl) ?_
      obtain ⟨g47, h⟩ := ck_some h
      refine x_iald C hW (k := 4) (n := 5) (by decide) (fun _ => rfl) g47 dX7_areSo_47 ?_
      obtain ⟨g48, h⟩ := ck_some h
      refine lv_irem hx hb dX7_areSo_48 g48 ?_
      refine lv_goto (tgt := 53) hx hb dX7_areSo_49 (by decide) ?_
      exact w_j_X7_areSo_53 C  h Kn Kt _ _ _ hW (lv_sub hl [2, 3] rfl)
set_option maxHeartbeats 4000000 in
set_option maxRecDepth 100000 in
theorem l_i_X7_areSo_2 {G : Geo} {p : Program} {l : Launch} {e : Env} {s : State} {m : MethodId} {args : Array Value} {below : List Frame} {meth : Method} {c : Code} {A : Nat → Prop} {H0 : Heap} {Q : State → Prop} (C : Cx G RX7 cX7_areSo 5 p s m args c) {S : St}  {n : Nat} {q0 : Int32} {u : (Int32) ⊕ (Bool)} (hq : iter (fun q : Int32 => i_X7_areSo_2 S q) n q0 = some u) (Kt : (∀ q, u = .inl q → ∀ (H : Heap) (locs : List Loc) (ls : Array Slot), HM G A H0 S H locs → lv_has ls 5 [] → W p l e (rmK 1) s m args below meth c H locs 0 0 Q (F0 m 74 ls [])) ∧ (∀ r, u = .inr r → KI 18 eM G A H0 cX7_areSo p l e 1 s m args below meth c Q (bi r) S)) : (fun q : Int32 => ∀ (H : Heap) (locs : List Loc) (ls : Array Slot), HM G A H0 S H locs → lv_has ls 5 [(0, .ref (adr G 0)), (1, .int q)] → W p l e (rmK 1) s m args below meth c H locs 0 0 Q (F0 m 2 ls [])) q0 :=
  iter_W (P := fun q : Int32 => ∀ (H : Heap) (locs : List Loc) (ls : Array Slot), HM G A H0 S H locs → lv_has ls 5 [(0, .ref (adr G 0)), (1, .int q)] → W p l e (rmK 1) s m args below meth c H locs 0 0 Q (F0 m 2 ls [])) (K := fun u => (∀ q, u = .inl q → ∀ (H : Heap) (locs : List Loc) (ls : Array Slot), HM G A H0 S H locs → lv_has ls 5 [] → W p l e (rmK 1) s m args below meth c H locs 0 0 Q (F0 m 74 ls [])) ∧ (∀ r, u = .inr r → KI 18 eM G A H0 cX7_areSo p l e 1 s m args below meth c Q (bi r) S)) (fun q o hit Kn Kt => w_i_X7_areSo_2 C  hit Kn Kt) n q0 u hq Kt
def f_X7_areSo (S : St) : Option (Bool) :=
  bd (iter (fun q => i_X7_areSo_2 S q) BIG ((0 : Int32))) fun u2 => sm u2 (fun q2 => some true) fun w2 => some w2
set_option maxHeartbeats 4000000 in
set_option maxRecDepth 100000 in
theorem w_f_X7_areSo {G : Geo} {p : Program} {l : Launch} {e : Env} {s : State} {m : MethodId} {args : Array Value} {below : List Frame} {meth : Method} {c : Code} {A : Nat → Prop} {H0 : Heap} {Q : State → Prop} (C : Cx G RX7 cX7_areSo 5 p s m args c) {S : St}  {o : Bool} (h : f_X7_areSo S = some o) (K : KI 18 eM G A H0 cX7_areSo p l e 1 s m args below meth c Q (bi o) S) : ∀ (H : Heap) (locs : List Loc) (ls : Array Slot), HM G A H0 S H locs → lv_has ls 5 [(0, .ref (adr G 0))] → W p l e (rmK 1) s m args below meth c H locs 0 0 Q (F0 m 0 ls []) := by
  obtain ⟨hx, hb, -⟩ := id C
  intro H locs ls hW hl
  unfold f_X7_areSo at h
  refine lv_iconst (v := 0) hx hb dX7_areSo_0 (by decide) ?_
  refine lv_istore_n (lv' := [(1, .int ((0 : Int32))), (0, .ref (adr G 0))]) hx hb dX7_areSo_1 rfl hl (by decide) rfl (fun ls hl => ?_)
  obtain ⟨u2, u2h, h⟩ := bd_some h
  refine l_i_X7_areSo_2 C  u2h ⟨?_, ?_⟩ _ _ _ hW (lv_sub hl [1, 0] rfl)
  · intro q2 hu; subst hu; have h := sm_l h
    intro H locs ls hW hl
    refine lv_iconst (v := 1) hx hb dX7_areSo_74 (by decide) ?_
    obtain rfl := Option.some.inj h
    exact K _ _ _ _ dX7_areSo_75 hW
  · intro w2 hu; subst hu; have h := sm_r h
    obtain rfl := Option.some.inj h
    exact K
set_option maxRecDepth 100000 in
theorem c_X7_areSo (l : Launch) (G : Geo) {S : St}  {o : Bool} (h : f_X7_areSo S = some o) : MI 18 eM G l yX7_areSo cX7_areSo 5 (some .boolean) 1 [.ref (adr G 0)] S (bi o) S :=
  mZ_of (by decide +kernel) (Nat.le_of_ble_eq_true rfl) (fun p e s m below meth c A H0 Q C K => w_f_X7_areSo C h K)
def f_X7_isSwitch (S : St) (a0 : Int32) : Option (Bool) :=
  if a0 < 0 then (some false) else (if (S 0 6) ≤ a0 then (some false) else (some true))
set_option maxHeartbeats 4000000 in
set_option maxRecDepth 100000 in
theorem w_f_X7_isSwitch {G : Geo} {p : Program} {l : Launch} {e : Env} {s : State} {m : MethodId} {args : Array Value} {below : List Frame} {meth : Method} {c : Code} {A : Nat → Prop} {H0 : Heap} {Q : State → Prop} (C : Cx G RX7 cX7_isSwitch 2 p s m args c) {S : St} {a0 : Int32} {o : Bool} (h : f_X7_isSwitch S a0 = some o) (K : KI 18 eM G A H0 cX7_isSwitch p l e 0 s m args below meth c Q (bi o) S) : ∀ (H : Heap) (locs : List Loc) (ls : Array Slot), HM G A H0 S H locs → lv_has ls 2 [(0, .ref (adr G 0)), (1, .int a0)] → W p l e (rmK 0) s m args below meth c H locs 0 0 Q (F0 m 0 ls []) := by
  obtain ⟨hx, hb, -⟩ := id C
  intro H locs ls hW hl
  unfold f_X7_isSwitch at h
  refine lv_iload_n hx hb dX7_isSwitch_0 rfl (lv_at hl 1 rfl) ?_
  refine lv_if_lt (tgt := 16) hx hb dX7_isSwitch_1 (by decide) (fun b1 => ?_) (fun b1 => ?_)
  · have h := it_t b1 h
    refine lv_iconst (v := 0) hx hb dX7_isSwitch_16 (by decide) ?_
    obtain rfl := Option.some.inj h
    exact K _ _ _ _ dX7_isSwitch_17 hW
  · have h := it_f b1 h
    refine lv_iload_n hx hb dX7_isSwitch_4 rfl (lv_at hl 1 rfl) ?_
    refine lv_aload_n hx hb dX7_isSwitch_5 rfl (lv_at hl 0 rfl) ?_
    refine gf_RX7_74 C hW dX7_isSwitch_6 ?_
    refine lv_icmp_ge (tgt := 16) hx hb dX7_isSwitch_9 (by decide) (fun b9 => ?_) (fun b9 => ?_)
    · have h := it_t b9 h
      refine lv_iconst (v := 0) hx hb dX7_isSwitch_16 (by decide) ?_
      obtain rfl := Option.some.inj h
      exact K _ _ _ _ dX7_isSwitch_17 hW
    · have h := it_f b9 h
      refine lv_iconst (v := 1) hx hb dX7_isSwitch_12 (by decide) ?_
      refine lv_goto (tgt := 17) hx hb dX7_isSwitch_13 (by decide) ?_
      obtain rfl := Option.some.inj h
      exact K _ _ _ _ dX7_isSwitch_17 hW
set_option maxRecDepth 100000 in
theorem c_X7_isSwitch (l : Launch) (G : Geo) {S : St} {a0 : Int32} {o : Bool} (h : f_X7_isSwitch S a0 = some o) : MI 18 eM G l yX7_isSwitch cX7_isSwitch 2 (some .boolean) 0 [.ref (adr G 0), .int a0] S (bi o) S :=
  mZ_of (by decide +kernel) (Nat.le_of_ble_eq_true rfl) (fun p e s m below meth c A H0 Q C K => w_f_X7_isSwitch C h K)
def f_X7_within (a0 : Int32) (a1 : Int32) (a2 : Int32) : Option (Bool) :=
  if a0 < a1 then (some false) else (if a2 < a0 then (some false) else (some true))
set_option maxHeartbeats 4000000 in
set_option maxRecDepth 100000 in
theorem w_f_X7_within {G : Geo} {p : Program} {l : Launch} {e : Env} {s : State} {m : MethodId} {args : Array Value} {below : List Frame} {meth : Method} {c : Code} {A : Nat → Prop} {H0 : Heap} {Q : State → Prop} (C : Cx G RX7 cX7_within 3 p s m args c) {S : St} {a0 : Int32} {a1 : Int32} {a2 : Int32} {o : Bool} (h : f_X7_within a0 a1 a2 = some o) (K : KI 18 eM G A H0 cX7_within p l e 0 s m args below meth c Q (bi o) S) : ∀ (H : Heap) (locs : List Loc) (ls : Array Slot), HM G A H0 S H locs → lv_has ls 3 [(0, .int a0), (1, .int a1), (2, .int a2)] → W p l e (rmK 0) s m args below meth c H locs 0 0 Q (F0 m 0 ls []) := by
  obtain ⟨hx, hb, -⟩ := id C
  intro H locs ls hW hl
  unfold f_X7_within at h
  refine lv_iload_n hx hb dX7_within_0 rfl (lv_at hl 0 rfl) ?_
  refine lv_iload_n hx hb dX7_within_1 rfl (lv_at hl 1 rfl) ?_
  refine lv_icmp_lt (tgt := 14) hx hb dX7_within_2 (by decide) (fun b2 => ?_) (fun b2 => ?_)
  · have h := it_t b2 h
    refine lv_iconst (v := 0) hx hb dX7_within_14 (by decide) ?_
    obtain rfl := Option.some.inj h
    exact K _ _ _ _ dX7_within_15 hW
  · have h := it_f b2 h
    refine lv_iload_n hx hb dX7_within_5 rfl (lv_at hl 0 rfl) ?_
    refine lv_iload_n hx hb dX7_within_6 rfl (lv_at hl 2 rfl) ?_
    refine lv_icmp_gt (tgt := 14) hx hb dX7_within_7 (by decide) (fun b7 => ?_) (fun b7 => ?_)
    · have h := it_t b7 h
      refine lv_iconst (v := 0) hx hb dX7_within_14 (by decide) ?_
      obtain rfl := Option.some.inj h
      exact K _ _ _ _ dX7_within_15 hW
    · have h := it_f b7 h
      refine lv_iconst (v := 1) hx hb dX7_within_10 (by decide) ?_
      refine lv_goto (tgt := 15) hx hb dX7_within_11 (by decide) ?_
      obtain rfl := Option.some.inj h
      exact K _ _ _ _ dX7_within_15 hW
set_option maxRecDepth 100000 in
theorem c_X7_within (l : Launch) (G : Geo) {S : St} {a0 : Int32} {a1 : Int32} {a2 : Int32} {o : Bool} (h : f_X7_within a0 a1 a2 = some o) : MI 18 eM G l yX7_within cX7_within 3 (some .boolean) 0 [.int a0, .int a1, .int a2] S (bi o) S :=
  mZ_of (by decide +kernel) (Nat.le_of_ble_eq_true rfl) (fun p e s m below meth c A H0 Q C K => w_f_X7_within C h K)
def f_X7_fails (S : St) (a0 : Int32) : Option (Int32 × St) :=
  some (((-10 : Int32)) - a0, up S 0 0 a0)
set_option maxHeartbeats 4000000 in
set_option maxRecDepth 100000 in
theorem w_f_X7_fails {G : Geo} {p : Program} {l : Launch} {e : Env} {s : State} {m : MethodId} {args : Array Value} {below : List Frame} {meth : Method} {c : Code} {A : Nat → Prop} {H0 : Heap} {Q : State → Prop} (C : Cx G RX7 cX7_fails 2 p s m args c) {S : St} {a0 : Int32} {o : Int32 × St} (h : f_X7_fails S a0 = some o) (K : KI 18 eM G A H0 cX7_fails p l e 0 s m args below meth c Q ((o).1) ((o).2)) : ∀ (H : Heap) (locs : List Loc) (ls : Array Slot), HM G A H0 S H locs → lv_has ls 2 [(0, .ref (adr G 0)), (1, .int a0)] → W p l e (rmK 0) s m args below meth c H locs 0 0 Q (F0 m 0 ls []) := by
  obtain ⟨hx, hb, -⟩ := id C
  intro H locs ls hW hl
  unfold f_X7_fails at h
  refine lv_aload_n hx hb dX7_fails_0 rfl (lv_at hl 0 rfl) ?_
  refine lv_iload_n hx hb dX7_fails_1 rfl (lv_at hl 1 rfl) ?_
  refine pf_RX7_61 C hW dX7_fails_2 (fun H locs hW => ?_)
  refine lv_bipush (v := (-10)) hx hb dX7_fails_5 (by decide) ?_
  refine lv_iload_n hx hb dX7_fails_7 rfl (lv_at hl 1 rfl) ?_
  refine lv_isub hx hb dX7_fails_8 ?_
  obtain rfl := Option.some.inj h
  exact K _ _ _ _ dX7_fails_9 hW
set_option maxRecDepth 100000 in
theorem c_X7_fails (l : Launch) (G : Geo) {S : St} {a0 : Int32} {o : Int32 × St} (h : f_X7_fails S a0 = some o) : MI 18 eM G l yX7_fails cX7_fails 2 (some .int) 0 [.ref (adr G 0), .int a0] S o.1 o.2 :=
  mI_of (by decide +kernel) (Nat.le_of_ble_eq_true rfl) (fun p e s m below meth c A H0 Q C K => w_f_X7_fails C h K)
def f_X7_as (S : St) (a0 : Int32) (a1 : Int32) : Option (Int32 × St) :=
  bd (f_X7_isSwitch (up S 0 0 ((0 : Int32))) a0) fun r7 => if r7 = true then (bd (f_X7_within a1 ((0 : Int32)) ((2 : Int32))) fun r18 => if r18 = true then (ck (okx a0 5) <| if ((up S 0 0 ((0 : Int32))) 6 (ix a0)) < a1 then (bd (f_X7_fails (up S 0 0 ((0 : Int32))) ((2 : Int32))) fun r43 => some (r43.1, r43.2)) else (some ((1 : Int32), up S 0 0 ((0 : Int32))))) else (some ((-2 : Int32), up S 0 0 ((0 : Int32))))) else (some ((-1 : Int32), up S 0 0 ((0 : Int32))))
set_option maxHeartbeats 4000000 in
set_option maxRecDepth 100000 in
theorem w_f_X7_as {G : Geo} {p : Program} {l : Launch} {e : Env} {s : State} {m : MethodId} {args : Array Value} {below : List Frame} {meth : Method} {c : Code} {A : Nat → Prop} {H0 : Heap} {Q : State → Prop} (C : Cx G RX7 cX7_as 3 p s m args c) {S : St} {a0 : Int32} {a1 : Int32} {o : Int32 × St} (h : f_X7_as S a0 a1 = some o) (K : KI 18 eM G A H0 cX7_as p l e 1 s m args below meth c Q ((o).1) ((o).2)) : ∀ (H : Heap) (locs : List Loc) (ls : Array Slot), HM G A H0 S H locs → lv_has ls 3 [(0, .ref (adr G 0)), (1, .int a0), (2, .int a1)] → W p l e (rmK 1) s m args below meth c H locs 0 0 Q (F0 m 0 ls []) := by
  obtain ⟨hx, hb, -⟩ := id C
  intro H locs ls hW hl
  unfold f_X7_as at h
  refine lv_aload_n hx hb dX7_as_0 rfl (lv_at hl 0 rfl) ?_
  refine lv_iconst (v := 0) hx hb dX7_as_1 (by decide) ?_
  refine pf_RX7_61 C hW dX7_as_2 (fun H locs hW => ?_)
  refine lv_aload_n hx hb dX7_as_5 rfl (lv_at hl 0 rfl) ?_
  refine lv_iload_n hx hb dX7_as_6 rfl (lv_at hl 1 rfl) ?_
  obtain ⟨r7, r7h, h⟩ := bd_some h
  refine x_backI hW (x_runV (As := [.int a0]) (rest := []) C hW (c_X7_isSwitch l G r7h H.size) cv_RX7_133 rv_X7 hl.1 rfl rfl ⟨by decide, by decide⟩ (Nat.le_of_ble_eq_true rfl) ⟨Nat.zero_le _, Nat.zero_le _⟩ dX7_as_7) (fun H locs hW => ?_)
  refine z_if_ne (tgt := 15) hx hb dX7_as_10 (by decide) (fun b10 => ?_) (fun b10 => ?_)
  · have h := it_t b10 h
    refine lv_iload_n hx hb dX7_as_15 rfl (lv_at hl 2 rfl) ?_
    refine lv_iconst (v := 0) hx hb dX7_as_16 (by decide) ?_
    refine lv_iconst (v := 2) hx hb dX7_as_17 (by decide) ?_
    obtain ⟨r18, r18h, h⟩ := bd_some h
    refine x_backI hW (x_runS (As := [.int a1, .int ((0 : Int32)), .int ((2 : Int32))]) (rest := []) C hW (c_X7_within l G (S := up S 0 0 ((0 : Int32))) r18h H.size) cs_RX7_67 hl.1 rfl rfl ⟨by decide, by decide⟩ (Nat.le_of_ble_eq_true rfl) ⟨Nat.zero_le _, Nat.zero_le _⟩ dX7_as_18) (fun H locs hW => ?_)
    refine z_if_ne (tgt := 27) hx hb dX7_as_21 (by decide) (fun b21 => ?_) (fun b21 => ?_)
    · have h := it_t b21 h
      refine lv_aload_n hx hb dX7_as_27 rfl (lv_at hl 0 rfl) ?_
      refine gf_RX7_25 C hW dX7_as_28 ?_
      refine lv_iload_n hx hb dX7_as_31 rfl (lv_at hl 1 rfl) ?_
      obtain ⟨g32, h⟩ := ck_some h
      refine x_iald C hW (k := 6) (n := 5) (by decide) (fun _ => rfl) g32 dX7_as_32 ?_
      refine lv_iload_n hx hb dX7_as_33 rfl (lv_at hl 2 rfl) ?_
      refine lv_icmp_lt (tgt := 41) hx hb dX7_as_34 (by decide) (fun b34 => ?_) (fun b34 => ?_)
      · have h := it_t b34 h
        refine lv_aload_n hx hb dX7_as_41 rfl (lv_at hl 0 rfl) ?_
        refine lv_iconst (v := 2) hx hb dX7_as_42 (by decide) ?_
        obtain ⟨r43, r43h, h⟩ := bd_some h
        refine x_backI hW (x_runV (As := [.int ((2 : Int32))]) (rest := []) C hW (c_X7_fails l G r43h H.size) cv_RX7_91 rv_X7 hl.1 rfl rfl ⟨by decide, by decide⟩ (Nat.le_of_ble_eq_true rfl) ⟨Nat.zero_le _, Nat.zero_le _⟩ dX7_as_43) (fun H locs hW => ?_)
        obtain rfl := Option.some.inj h
        exact K _ _ _ _ dX7_as_46 hW
      · have h := it_f b34 h
        refine lv_iconst (v := 1) hx hb dX7_as_37 (by decide) ?_
        refine lv_goto (tgt := 46) hx hb dX7_as_38 (by decide) ?_
        obtain rfl := Option.some.inj h
        exact K _ _ _ _ dX7_as_46 hW
    · have h := it_f b21 h
      refine lv_bipush (v := (-2)) hx hb dX7_as_24 (by decide) ?_
      obtain rfl := Option.some.inj h
      exact K _ _ _ _ dX7_as_26 hW
  · have h := it_f b10 h
    refine lv_iconst (v := (-1)) hx hb dX7_as_13 (by decide) ?_
    obtain rfl := Option.some.inj h
    exact K _ _ _ _ dX7_as_14 hW
set_option maxRecDepth 100000 in
theorem c_X7_as (l : Launch) (G : Geo) {S : St} {a0 : Int32} {a1 : Int32} {o : Int32 × St} (h : f_X7_as S a0 a1 = some o) : MI 18 eM G l yX7_as cX7_as 3 (some .int) 1 [.ref (adr G 0), .int a0, .int a1] S o.1 o.2 :=
  mI_of (by decide +kernel) (Nat.le_of_ble_eq_true rfl) (fun p e s m below meth c A H0 Q C K => w_f_X7_as C h K)
def f_X7_back (S : St) (a0 : Int32) : Option (Int32 × St) :=
  bd (f_X7_within a0 ((0 : Int32)) (S 0 24)) fun r6 => if r6 = true then (some ((up S 0 24 ((S 0 24) - a0)) 0 24, up S 0 24 ((S 0 24) - a0))) else (some ((-2 : Int32), S))
set_option maxHeartbeats 4000000 in
set_option maxRecDepth 100000 in
theorem w_f_X7_back {G : Geo} {p : Program} {l : Launch} {e : Env} {s : State} {m : MethodId} {args : Array Value} {below : List Frame} {meth : Method} {c : Code} {A : Nat → Prop} {H0 : Heap} {Q : State → Prop} (C : Cx G RX7 cX7_back 2 p s m args c) {S : St} {a0 : Int32} {o : Int32 × St} (h : f_X7_back S a0 = some o) (K : KI 18 eM G A H0 cX7_back p l e 1 s m args below meth c Q ((o).1) ((o).2)) : ∀ (H : Heap) (locs : List Loc) (ls : Array Slot), HM G A H0 S H locs → lv_has ls 2 [(0, .ref (adr G 0)), (1, .int a0)] → W p l e (rmK 1) s m args below meth c H locs 0 0 Q (F0 m 0 ls []) := by
  obtain ⟨hx, hb, -⟩ := id C
  intro H locs ls hW hl
  unfold f_X7_back at h
  refine lv_iload_n hx hb dX7_back_0 rfl (lv_at hl 1 rfl) ?_
  refine lv_iconst (v := 0) hx hb dX7_back_1 (by decide) ?_
  refine lv_aload_n hx hb dX7_back_2 rfl (lv_at hl 0 rfl) ?_
  refine gf_RX7_110 C hW dX7_back_3 ?_
  obtain ⟨r6, r6h, h⟩ := bd_some h
  refine x_backI hW (x_runS (As := [.int a0, .int ((0 : Int32)), .int (S 0 24)]) (rest := []) C hW (c_X7_within l G (S := S) r6h H.size) cs_RX7_67 hl.1 rfl rfl ⟨by decide, by decide⟩ (Nat.le_of_ble_eq_true rfl) ⟨Nat.zero_le _, Nat.zero_le _⟩ dX7_back_6) (fun H locs hW => ?_)
  refine z_if_ne (tgt := 15) hx hb dX7_back_9 (by decide) (fun b9 => ?_) (fun b9 => ?_)
  · have h := it_t b9 h
    refine lv_aload_n hx hb dX7_back_15 rfl (lv_at hl 0 rfl) ?_
    refine lv_dup hx hb dX7_back_16 rfl ?_
    refine gf_RX7_110 C hW dX7_back_17 ?_
    refine lv_iload_n hx hb dX7_back_20 rfl (lv_at hl 1 rfl) ?_
    refine lv_isub hx hb dX7_back_21 ?_
    refine pf_RX7_110 C hW dX7_back_22 (fun H locs hW => ?_)
    refine lv_aload_n hx hb dX7_back_25 rfl (lv_at hl 0 rfl) ?_
    refine gf_RX7_110 C hW dX7_back_26 ?_
    obtain rfl := Option.some.inj h
    exact K _ _ _ _ dX7_back_29 hW
  · have h := it_f b9 h
    refine lv_bipush (v := (-2)) hx hb dX7_back_12 (by decide) ?_
    obtain rfl := Option.some.inj h
    exact K _ _ _ _ dX7_back_14 hW
set_option maxRecDepth 100000 in
theorem c_X7_back (l : Launch) (G : Geo) {S : St} {a0 : Int32} {o : Int32 × St} (h : f_X7_back S a0 = some o) : MI 18 eM G l yX7_back cX7_back 2 (some .int) 1 [.ref (adr G 0), .int a0] S o.1 o.2 :=
  mI_of (by decide +kernel) (Nat.le_of_ble_eq_true rfl) (fun p e s m below meth c A H0 Q C K => w_f_X7_back C h K)
def f_X7_begins (S : St) (a0 : Int32) : Option (St) :=
  some (up S 0 1 ((((31 : Int32)) * (S 0 1)) + a0))
set_option maxHeartbeats 4000000 in
set_option maxRecDepth 100000 in
theorem w_f_X7_begins {G : Geo} {p : Program} {l : Launch} {e : Env} {s : State} {m : MethodId} {args : Array Value} {below : List Frame} {meth : Method} {c : Code} {A : Nat → Prop} {H0 : Heap} {Q : State → Prop} (C : Cx G RX7 cX7_begins 2 p s m args c) {S : St} {a0 : Int32} {o : St} (h : f_X7_begins S a0 = some o) (K : KV 18 eM G A H0 cX7_begins p l e 0 s m args below meth c Q o) : ∀ (H : Heap) (locs : List Loc) (ls : Array Slot), HM G A H0 S H locs → lv_has ls 2 [(0, .ref (adr G 0)), (1, .int a0)] → W p l e (rmK 0) s m args below meth c H locs 0 0 Q (F0 m 0 ls []) := by
  obtain ⟨hx, hb, -⟩ := id C
  intro H locs ls hW hl
  unfold f_X7_begins at h
  refine lv_aload_n hx hb dX7_begins_0 rfl (lv_at hl 0 rfl) ?_
  refine lv_bipush (v := 31) hx hb dX7_begins_1 (by decide) ?_
  refine lv_aload_n hx hb dX7_begins_3 rfl (lv_at hl 0 rfl) ?_
  refine gf_RX7_206 C hW dX7_begins_4 ?_
  refine lv_imul hx hb dX7_begins_7 ?_
  refine lv_iload_n hx hb dX7_begins_8 rfl (lv_at hl 1 rfl) ?_
  refine lv_iadd hx hb dX7_begins_9 ?_
  refine pf_RX7_206 C hW dX7_begins_10 (fun H locs hW => ?_)
  obtain rfl := Option.some.inj h
  exact K _ _ _ _ dX7_begins_13 hW
set_option maxRecDepth 100000 in
theorem c_X7_begins (l : Launch) (G : Geo) {S : St} {a0 : Int32} {o : St} (h : f_X7_begins S a0 = some o) : MV 18 eM G l yX7_begins cX7_begins 2 none 0 [.ref (adr G 0), .int a0] S o :=
  mV_of (by decide +kernel) (Nat.le_of_ble_eq_true rfl) (fun p e s m below meth c A H0 Q C K => w_f_X7_begins C h K)
def f_X7_isSheet (a0 : Int32) : Option (Bool) :=
  bd (f_X7_within a0 ((0 : Int32)) ((3 : Int32))) fun r3 => some r3
set_option maxHeartbeats 4000000 in
set_option maxRecDepth 100000 in
theorem w_f_X7_isSheet {G : Geo} {p : Program} {l : Launch} {e : Env} {s : State} {m : MethodId} {args : Array Value} {below : List Frame} {meth : Method} {c : Code} {A : Nat → Prop} {H0 : Heap} {Q : State → Prop} (C : Cx G RX7 cX7_isSheet 1 p s m args c) {S : St} {a0 : Int32} {o : Bool} (h : f_X7_isSheet a0 = some o) (K : KI 18 eM G A H0 cX7_isSheet p l e 1 s m args below meth c Q (bi o) S) : ∀ (H : Heap) (locs : List Loc) (ls : Array Slot), HM G A H0 S H locs → lv_has ls 1 [(0, .int a0)] → W p l e (rmK 1) s m args below meth c H locs 0 0 Q (F0 m 0 ls []) := by
  obtain ⟨hx, hb, -⟩ := id C
  intro H locs ls hW hl
  unfold f_X7_isSheet at h
  refine lv_iload_n hx hb dX7_isSheet_0 rfl (lv_at hl 0 rfl) ?_
  refine lv_iconst (v := 0) hx hb dX7_isSheet_1 (by decide) ?_
  refine lv_iconst (v := 3) hx hb dX7_isSheet_2 (by decide) ?_
  obtain ⟨r3, r3h, h⟩ := bd_some h
  refine x_backI hW (x_runS (As := [.int a0, .int ((0 : Int32)), .int ((3 : Int32))]) (rest := []) C hW (c_X7_within l G (S := S) r3h H.size) cs_RX7_67 hl.1 rfl rfl ⟨by decide, by decide⟩ (Nat.le_of_ble_eq_true rfl) ⟨Nat.zero_le _, Nat.zero_le _⟩ dX7_isSheet_3) (fun H locs hW => ?_)
  obtain rfl := Option.some.inj h
  exact K _ _ _ _ dX7_isSheet_6 hW
set_option maxRecDepth 100000 in
theorem c_X7_isSheet (l : Launch) (G : Geo) {S : St} {a0 : Int32} {o : Bool} (h : f_X7_isSheet a0 = some o) : MI 18 eM G l yX7_isSheet cX7_isSheet 1 (some .boolean) 1 [.int a0] S (bi o) S :=
  mZ_of (by decide +kernel) (Nat.le_of_ble_eq_true rfl) (fun p e s m below meth c A H0 Q C K => w_f_X7_isSheet C h K)
def f_X7_isSort (a0 : Int32) : Option (Bool) :=
  bd (f_X7_within a0 ((0 : Int32)) ((2 : Int32))) fun r3 => some r3
set_option maxHeartbeats 4000000 in
set_option maxRecDepth 100000 in
theorem w_f_X7_isSort {G : Geo} {p : Program} {l : Launch} {e : Env} {s : State} {m : MethodId} {args : Array Value} {below : List Frame} {meth : Method} {c : Code} {A : Nat → Prop} {H0 : Heap} {Q : State → Prop} (C : Cx G RX7 cX7_isSort 1 p s m args c) {S : St} {a0 : Int32} {o : Bool} (h : f_X7_isSort a0 = some o) (K : KI 18 eM G A H0 cX7_isSort p l e 1 s m args below meth c Q (bi o) S) : ∀ (H : Heap) (locs : List Loc) (ls : Array Slot), HM G A H0 S H locs → lv_has ls 1 [(0, .int a0)] → W p l e (rmK 1) s m args below meth c H locs 0 0 Q (F0 m 0 ls []) := by
  obtain ⟨hx, hb, -⟩ := id C
  intro H locs ls hW hl
  unfold f_X7_isSort at h
  refine lv_iload_n hx hb dX7_isSort_0 rfl (lv_at hl 0 rfl) ?_
  refine lv_iconst (v := 0) hx hb dX7_isSort_1 (by decide) ?_
  refine lv_iconst (v := 2) hx hb dX7_isSort_2 (by decide) ?_
  obtain ⟨r3, r3h, h⟩ := bd_some h
  refine x_backI hW (x_runS (As := [.int a0, .int ((0 : Int32)), .int ((2 : Int32))]) (rest := []) C hW (c_X7_within l G (S := S) r3h H.size) cs_RX7_67 hl.1 rfl rfl ⟨by decide, by decide⟩ (Nat.le_of_ble_eq_true rfl) ⟨Nat.zero_le _, Nat.zero_le _⟩ dX7_isSort_3) (fun H locs hW => ?_)
  obtain rfl := Option.some.inj h
  exact K _ _ _ _ dX7_isSort_6 hW
set_option maxRecDepth 100000 in
theorem c_X7_isSort (l : Launch) (G : Geo) {S : St} {a0 : Int32} {o : Bool} (h : f_X7_isSort a0 = some o) : MI 18 eM G l yX7_isSort cX7_isSort 1 (some .boolean) 1 [.int a0] S (bi o) S :=
  mZ_of (by decide +kernel) (Nat.le_of_ble_eq_true rfl) (fun p e s m below meth c A H0 Q C K => w_f_X7_isSort C h K)
def f_X7_lost (S : St) (a0 : Int32) : Option (Int64 × St) :=
  some ((-9223372036854775808 : Int64), up S 0 0 a0)
set_option maxHeartbeats 4000000 in
set_option maxRecDepth 100000 in
theorem w_f_X7_lost {G : Geo} {p : Program} {l : Launch} {e : Env} {s : State} {m : MethodId} {args : Array Value} {below : List Frame} {meth : Method} {c : Code} {A : Nat → Prop} {H0 : Heap} {Q : State → Prop} (C : Cx G RX7 cX7_lost 2 p s m args c) {S : St} {a0 : Int32} {o : Int64 × St} (h : f_X7_lost S a0 = some o) (K : KL 18 eM G A H0 cX7_lost p l e 0 s m args below meth c Q ((o).1) ((o).2)) : ∀ (H : Heap) (locs : List Loc) (ls : Array Slot), HM G A H0 S H locs → lv_has ls 2 [(0, .ref (adr G 0)), (1, .int a0)] → W p l e (rmK 0) s m args below meth c H locs 0 0 Q (F0 m 0 ls []) := by
  obtain ⟨hx, hb, -⟩ := id C
  intro H locs ls hW hl
  unfold f_X7_lost at h
  refine lv_aload_n hx hb dX7_lost_0 rfl (lv_at hl 0 rfl) ?_
  refine lv_iload_n hx hb dX7_lost_1 rfl (lv_at hl 1 rfl) ?_
  refine pf_RX7_61 C hW dX7_lost_2 (fun H locs hW => ?_)
  refine lv_ldc2 (v := (-9223372036854775808)) hx hb C.2.2.2.1 (C.2.2.2.2.1 _ uKL_RX7_65) dX7_lost_5 ?_
  obtain rfl := Option.some.inj h
  exact K _ _ _ _ dX7_lost_8 hW
set_option maxRecDepth 100000 in
theorem c_X7_lost (l : Launch) (G : Geo) {S : St} {a0 : Int32} {o : Int64 × St} (h : f_X7_lost S a0 = some o) : ML 18 eM G l yX7_lost cX7_lost 2 (some .long) 0 [.ref (adr G 0), .int a0] S o.1 o.2 :=
  mL_of (by decide +kernel) (Nat.le_of_ble_eq_true rfl) (fun p e s m below meth c A H0 Q C K => w_f_X7_lost C h K)
def j_X7_cell_50 (S : St) (x1 : Int32) (x2 : Int32) : Option (Int64 × St) :=
  ck (okx x1 4) <| if (S 1 (ix x1)) = ((-9 : Int32)) then (bd (f_X7_lost S ((1 : Int32))) fun r63 => some (r63.1, r63.2)) else (ck (okx x1 4) <| bd (f_X7_within x2 ((0 : Int32)) ((S 2 (ix x1)) - ((1 : Int32)))) fun r77 => if r77 = true then (ck (okx ((((60 : Int32)) * x1) + x2) 240) <| some ((S 3 (ix ((((60 : Int32)) * x1) + x2))).toInt64, S)) else (bd (f_X7_lost S ((3 : Int32))) fun r85 => some (r85.1, r85.2)))
set_option maxHeartbeats 4000000 in
set_option maxRecDepth 100000 in
theorem w_j_X7_cell_50 {G : Geo} {p : Program} {l : Launch} {e : Env} {s : State} {m : MethodId} {args : Array Value} {below : List Frame} {meth : Method} {c : Code} {A : Nat → Prop} {H0 : Heap} {Q : State → Prop} (C : Cx G RX7 cX7_cell 4 p s m args c) {S : St} {x1 : Int32} {x2 : Int32} {o : Int64 × St} (h : j_X7_cell_50 S x1 x2 = some o) (K : KL 18 eM G A H0 cX7_cell p l e 2 s m args below meth c Q ((o).1) ((o).2)) : ∀ (H : Heap) (locs : List Loc) (ls : Array Slot), HM G A H0 S H locs → lv_has ls 4 [(0, .ref (adr G 0)), (1, .int x1), (2, .int x2)] → W p l e (rmK 2) s m args below meth c H locs 0 0 Q (F0 m 50 ls []) := by
  obtain ⟨hx, hb, -⟩ := id C
  intro H locs ls hW hl
  unfold j_X7_cell_50 at h
  refine lv_aload_n hx hb dX7_cell_50 rfl (lv_at hl 0 rfl) ?_
  refine gf_RX7_9 C hW dX7_cell_51 ?_
  refine lv_iload_n hx hb dX7_cell_54 rfl (lv_at hl 1 rfl) ?_
  obtain ⟨g55, h⟩ := ck_some h
  refine x_iald C hW (k := 1) (n := 4) (by decide) (fun _ => rfl) g55 dX7_cell_55 ?_
  refine lv_bipush (v := (-9)) hx hb dX7_cell_56 (by decide) ?_
  refine lv_icmp_ne (tgt := 67) hx hb dX7_cell_58 (by decide) (fun b58 => ?_) (fun b58 => ?_)
  · have h := it_f b58 h
    refine lv_iload_n hx hb dX7_cell_67 rfl (lv_at hl 2 rfl) ?_
    refine lv_iconst (v := 0) hx hb dX7_cell_68 (by decide) ?_
    refine lv_aload_n hx hb dX7_cell_69 rfl (lv_at hl 0 rfl) ?_
    refine gf_RX7_13 C hW dX7_cell_70 ?_
    refine lv_iload_n hx hb dX7_cell_73 rfl (lv_at hl 1 rfl) ?_
    obtain ⟨g74, h⟩ := ck_some h
    refine x_iald C hW (k := 2) (n := 4) (by decide) (fun _ => rfl) g74 dX7_cell_74 ?_
    refine lv_iconst (v := 1) hx hb dX7_cell_75 (by decide) ?_
    refine lv_isub hx hb dX7_cell_76 ?_
    obtain ⟨r77, r77h, h⟩ := bd_some h
    refine x_backI hW (x_runS (As := [.int x2, .int ((0 : Int32)), .int ((S 2 (ix x1)) - ((1 : Int32)))]) (rest := []) C hW (c_X7_within l G (S := S) r77h H.size) cs_RX7_67 hl.1 rfl rfl ⟨by decide, by decide⟩ (Nat.le_of_ble_eq_true rfl) ⟨Nat.zero_le _, Nat.zero_le _⟩ dX7_cell_77) (fun H locs hW => ?_)
    refine z_if_ne (tgt := 89) hx hb dX7_cell_80 (by decide) (fun b80 => ?_) (fun b80 => ?_)
    · have h := it_t b80 h
      refine lv_aload_n hx hb dX7_cell_89 rfl (lv_at hl 0 rfl) ?_
      refine gf_RX7_16 C hW dX7_cell_90 ?_
      refine lv_bipush (v := 60) hx hb dX7_cell_93 (by decide) ?_
      refine lv_iload_n hx hb dX7_cell_95 rfl (lv_at hl 1 rfl) ?_
      refine lv_imul hx hb dX7_cell_96 ?_
      refine lv_iload_n hx hb dX7_cell_97 rfl (lv_at hl 2 rfl) ?_
      refine lv_iadd hx hb dX7_cell_98 ?_
      obtain ⟨g99, h⟩ := ck_some h
      refine x_iald C hW (k := 3) (n := 240) (by decide) (fun _ => rfl) g99 dX7_cell_99 ?_
      refine lv_i2l hx hb dX7_cell_100 rfl ?_
      obtain rfl := Option.some.inj h
      exact K _ _ _ _ dX7_cell_101 hW
    · have h := it_f b80 h
      refine lv_aload_n hx hb dX7_cell_83 rfl (lv_at hl 0 rfl) ?_
      refine lv_iconst (v := 3) hx hb dX7_cell_84 (by decide) ?_
      obtain ⟨r85, r85h, h⟩ := bd_some h
      refine x_backL hW (x_runV (As := [.int ((3 : Int32))]) (rest := []) C hW (c_X7_lost l G r85h H.size) cv_RX7_202 rv_X7 hl.1 rfl rfl ⟨by decide, by decide⟩ (Nat.le_of_ble_eq_true rfl) ⟨Nat.zero_le _, Nat.zero_le _⟩ dX7_cell_85) (fun H locs hW => ?_)
      obtain rfl := Option.some.inj h
      exact K _ _ _ _ dX7_cell_88 hW
  · have h := it_t b58 h
    refine lv_aload_n hx hb dX7_cell_61 rfl (lv_at hl 0 rfl) ?_
    refine lv_iconst (v := 1) hx hb dX7_cell_62 (by decide) ?_
    obtain ⟨r63, r63h, h⟩ := bd_some h
    refine x_backL hW (x_runV (As := [.int ((1 : Int32))]) (rest := []) C hW (c_X7_lost l G r63h H.size) cv_RX7_202 rv_X7 hl.1 rfl rfl ⟨by decide, by decide⟩ (Nat.le_of_ble_eq_true rfl) ⟨Nat.zero_le _, Nat.zero_le _⟩ dX7_cell_63) (fun H locs hW => ?_)
    obtain rfl := Option.some.inj h
    exact K _ _ _ _ dX7_cell_66 hW
def f_X7_cell (S : St) (a0 : Int32) (a1 : Int32) (a2 : Int32) : Option (Int64 × St) :=
  bd (f_X7_isSheet a0) fun r6 => if r6 = false then (some ((-9223372036854775808 : Int64), up S 0 0 ((0 : Int32)))) else (bd (f_X7_isSort a2) fun r13 => if r13 = true then (ck (okx a0 4) <| if ((up S 0 0 ((0 : Int32))) 1 (ix a0)) = ((-9 : Int32)) then (j_X7_cell_50 (up S 0 0 ((0 : Int32))) a0 a1) else (ck (okx a0 4) <| if ((up S 0 0 ((0 : Int32))) 1 (ix a0)) = a2 then (j_X7_cell_50 (up S 0 0 ((0 : Int32))) a0 a1) else (bd (f_X7_lost (up S 0 0 ((0 : Int32))) ((2 : Int32))) fun r46 => some (r46.1, r46.2)))) else (some ((-9223372036854775808 : Int64), up S 0 0 ((0 : Int32)))))
set_option maxHeartbeats 4000000 in
set_option maxRecDepth 100000 in
theorem w_f_X7_cell {G : Geo} {p : Program} {l : Launch} {e : Env} {s : State} {m : MethodId} {args : Array Value} {below : List Frame} {meth : Method} {c : Code} {A : Nat → Prop} {H0 : Heap} {Q : State → Prop} (C : Cx G RX7 cX7_cell 4 p s m args c) {S : St} {a0 : Int32} {a1 : Int32} {a2 : Int32} {o : Int64 × St} (h : f_X7_cell S a0 a1 a2 = some o) (K : KL 18 eM G A H0 cX7_cell p l e 2 s m args below meth c Q ((o).1) ((o).2)) : ∀ (H : Heap) (locs : List Loc) (ls : Array Slot), HM G A H0 S H locs → lv_has ls 4 [(0, .ref (adr G 0)), (1, .int a0), (2, .int a1), (3, .int a2)] → W p l e (rmK 2) s m args below meth c H locs 0 0 Q (F0 m 0 ls []) := by
  obtain ⟨hx, hb, -⟩ := id C
  intro H locs ls hW hl
  unfold f_X7_cell at h
  refine lv_aload_n hx hb dX7_cell_0 rfl (lv_at hl 0 rfl) ?_
  refine lv_iconst (v := 0) hx hb dX7_cell_1 (by decide) ?_
  refine pf_RX7_61 C hW dX7_cell_2 (fun H locs hW => ?_)
  refine lv_iload_n hx hb dX7_cell_5 rfl (lv_at hl 1 rfl) ?_
  obtain ⟨r6, r6h, h⟩ := bd_some h
  refine x_backI hW (x_runS (As := [.int a0]) (rest := []) C hW (c_X7_isSheet l G (S := up S 0 0 ((0 : Int32))) r6h H.size) cs_RX7_80 hl.1 rfl rfl ⟨by decide, by decide⟩ (Nat.le_of_ble_eq_true rfl) ⟨Nat.zero_le _, Nat.zero_le _⟩ dX7_cell_6) (fun H locs hW => ?_)
  refine z_if_eq (tgt := 19) hx hb dX7_cell_9 (by decide) (fun b9 => ?_) (fun b9 => ?_)
  · have h := it_t b9 h
    refine lv_ldc2 (v := (-9223372036854775808)) hx hb C.2.2.2.1 (C.2.2.2.2.1 _ uKL_RX7_65) dX7_cell_19 ?_
    obtain rfl := Option.some.inj h
    exact K _ _ _ _ dX7_cell_22 hW
  · have h := it_f b9 h
    refine lv_iload_n hx hb dX7_cell_12 rfl (lv_at hl 3 rfl) ?_
    obtain ⟨r13, r13h, h⟩ := bd_some h
    refine x_backI hW (x_runS (As := [.int a2]) (rest := []) C hW (c_X7_isSort l G (S := up S 0 0 ((0 : Int32))) r13h H.size) cs_RX7_84 hl.1 rfl rfl ⟨by decide, by decide⟩ (Nat.le_of_ble_eq_true rfl) ⟨Nat.zero_le _, Nat.zero_le _⟩ dX7_cell_13) (fun H locs hW => ?_)
    refine z_if_ne (tgt := 23) hx hb dX7_cell_16 (by decide) (fun b16 => ?_) (fun b16 => ?_)
    · have h := it_t b16 h
      refine lv_aload_n hx hb dX7_cell_23 rfl (lv_at hl 0 rfl) ?_
      refine gf_RX7_9 C hW dX7_cell_24 ?_
      refine lv_iload_n hx hb dX7_cell_27 rfl (lv_at hl 1 rfl) ?_
      obtain ⟨g28, h⟩ := ck_some h
      refine x_iald C hW (k := 1) (n := 4) (by decide) (fun _ => rfl) g28 dX7_cell_28 ?_
      refine lv_bipush (v := (-9)) hx hb dX7_cell_29 (by decide) ?_
      refine lv_icmp_eq (tgt := 50) hx hb dX7_cell_31 (by decide) (fun b31 => ?_) (fun b31 => ?_)
      · have h := it_t b31 h
        exact w_j_X7_cell_50 C  h K _ _ _ hW (lv_sub hl [0, 1, 2] rfl)
      · have h := it_f b31 h
        refine lv_aload_n hx hb dX7_cell_34 rfl (lv_at hl 0 rfl) ?_
        refine gf_RX7_9 C hW dX7_cell_35 ?_
        refine lv_iload_n hx hb dX7_cell_38 rfl (lv_at hl 1 rfl) ?_
        obtain ⟨g39, h⟩ := ck_some h
        refine x_iald C hW (k := 1) (n := 4) (by decide) (fun _ => rfl) g39 dX7_cell_39 ?_
        refine lv_iload_n hx hb dX7_cell_40 rfl (lv_at hl 3 rfl) ?_
        refine lv_icmp_eq (tgt := 50) hx hb dX7_cell_41 (by decide) (fun b41 => ?_) (fun b41 => ?_)
        · have h := it_t b41 h
          exact w_j_X7_cell_50 C  h K _ _ _ hW (lv_sub hl [0, 1, 2] rfl)
        · have h := it_f b41 h
          refine lv_aload_n hx hb dX7_cell_44 rfl (lv_at hl 0 rfl) ?_
          refine lv_iconst (v := 2) hx hb dX7_cell_45 (by decide) ?_
          obtain ⟨r46, r46h, h⟩ := bd_some h
          refine x_backL hW (x_runV (As := [.int ((2 : Int32))]) (rest := []) C hW (c_X7_lost l G r46h H.size) cv_RX7_202 rv_X7 hl.1 rfl rfl ⟨by decide, by decide⟩ (Nat.le_of_ble_eq_true rfl) ⟨Nat.zero_le _, Nat.zero_le _⟩ dX7_cell_46) (fun H locs hW => ?_)
          obtain rfl := Option.some.inj h
          exact K _ _ _ _ dX7_cell_49 hW
    · have h := it_f b16 h
      refine lv_ldc2 (v := (-9223372036854775808)) hx hb C.2.2.2.1 (C.2.2.2.2.1 _ uKL_RX7_65) dX7_cell_19 ?_
      obtain rfl := Option.some.inj h
      exact K _ _ _ _ dX7_cell_22 hW
set_option maxRecDepth 100000 in
theorem c_X7_cell (l : Launch) (G : Geo) {S : St} {a0 : Int32} {a1 : Int32} {a2 : Int32} {o : Int64 × St} (h : f_X7_cell S a0 a1 a2 = some o) : ML 18 eM G l yX7_cell cX7_cell 4 (some .long) 2 [.ref (adr G 0), .int a0, .int a1, .int a2] S o.1 o.2 :=
  mL_of (by decide +kernel) (Nat.le_of_ble_eq_true rfl) (fun p e s m below meth c A H0 Q C K => w_f_X7_cell C h K)
def j_X7_copy_190 (S : St) (x1 : Int32) (x2 : Int32) (x3 : Int32) (x4 : Int32) (x5 : Int32) (x7 : Int32) (x8 : Int32) (y0 : Int32) : Option ((St × Int32) ⊕ (St × Int32)) :=
  ck (okx (((((60 : Int32)) * x1) + x2) + y0) 240) <| ck (okx (((((60 : Int32)) * x3) + x4) + y0) 240) <| some (.inl (up S 3 (ix (((((60 : Int32)) * x3) + x4) + y0)) (S 3 (ix (((((60 : Int32)) * x1) + x2) + y0))), x8 + (1 : Int32)))
set_option maxHeartbeats 4000000 in
set_option maxRecDepth 100000 in
theorem w_j_X7_copy_190 {G : Geo} {p : Program} {l : Launch} {e : Env} {s : State} {m : MethodId} {args : Array Value} {below : List Frame} {meth : Method} {c : Code} {A : Nat → Prop} {H0 : Heap} {Q : State → Prop} (C : Cx G RX7 cX7_copy 10 p s m args c) {S : St} {x1 : Int32} {x2 : Int32} {x3 : Int32} {x4 : Int32} {x5 : Int32} {x7 : Int32} {x8 : Int32} {y0 : Int32} {o : (St × Int32) ⊕ (St × Int32)} (h : j_X7_copy_190 S x1 x2 x3 x4 x5 x7 x8 y0 = some o) (Kn : ∀ q, o = .inl q → ∀ (H : Heap) (locs : List Loc) (ls : Array Slot), HM G A H0 q.1 H locs → lv_has ls 10 [(0, .ref (adr G 0)), (1, .int x1), (2, .int x2), (3, .int x3), (4, .int x4), (5, .int x5), (7, .int x7), (8, .int (q.2))] → W p l e (rmK 2) s m args below meth c H locs 0 0 Q (F0 m 166 ls [])) (Kt : ∀ q, o = .inr q → ∀ (H : Heap) (locs : List Loc) (ls : Array Slot), HM G A H0 q.1 H locs → lv_has ls 10 [(5, .int x5)] → W p l e (rmK 2) s m args below meth c H locs 0 0 Q (F0 m 227 ls [])) : ∀ (H : Heap) (locs : List Loc) (ls : Array Slot), HM G A H0 S H locs → lv_has ls 10 [(0, .ref (adr G 0)), (1, .int x1), (2, .int x2), (3, .int x3), (4, .int x4), (5, .int x5), (7, .int x7), (8, .int x8)] → W p l e (rmK 2) s m args below meth c H locs 0 0 Q (F0 m 190 ls [.int y0]) := by
  obtain ⟨hx, hb, -⟩ := id C
  intro H locs ls hW hl
  unfold j_X7_copy_190 at h
  refine lv_istore (lv' := [(9, .int y0), (0, .ref (adr G 0)), (1, .int x1), (2, .int x2), (3, .int x3), (4, .int x4), (5, .int x5), (7, .int x7), (8, .int x8)]) hx hb dX7_copy_190 hl (by decide) rfl (fun ls hl => ?_)
  refine lv_aload_n hx hb dX7_copy_192 rfl (lv_at hl 1 rfl) ?_
  refine gf_RX7_16 C hW dX7_copy_193 ?_
  refine lv_bipush (v := 60) hx hb dX7_copy_196 (by decide) ?_
  refine lv_iload_n hx hb dX7_copy_198 rfl (lv_at hl 4 rfl) ?_
  refine lv_imul hx hb dX7_copy_199 ?_
  refine lv_iload hx hb dX7_copy_200 (lv_at hl 5 rfl) ?_
  refine lv_iadd hx hb dX7_copy_202 ?_
  refine lv_iload hx hb dX7_copy_203 (lv_at hl 0 rfl) ?_
  refine lv_iadd hx hb dX7_copy_205 ?_
  refine lv_aload_n hx hb dX7_copy_206 rfl (lv_at hl 1 rfl) ?_
  refine gf_RX7_16 C hW dX7_copy_207 ?_
  refine lv_bipush (v := 60) hx hb dX7_copy_210 (by decide) ?_
  refine lv_iload_n hx hb dX7_copy_212 rfl (lv_at hl 2 rfl) ?_
  refine lv_imul hx hb dX7_copy_213 ?_
  refine lv_iload_n hx hb dX7_copy_214 rfl (lv_at hl 3 rfl) ?_
  refine lv_iadd hx hb dX7_copy_215 ?_
  refine lv_iload hx hb dX7_copy_216 (lv_at hl 0 rfl) ?_
  refine lv_iadd hx hb dX7_copy_218 ?_
  obtain ⟨g219, h⟩ := ck_some h
  refine x_iald C hW (k := 3) (n := 240) (by decide) (fun _ => rfl) g219 dX7_copy_219 ?_
  obtain ⟨g220, h⟩ := ck_some h
  refine x_iast C hW (k := 3) (n := 240) (by decide) (fun _ => rfl) g220 dX7_copy_220 (fun H locs hW => ?_)
  refine lv_iinc (v := (x8 + (1 : Int32))) (lv' := [(8, .int (x8 + (1 : Int32))), (9, .int y0), (0, .ref (adr G 0)), (1, .int x1), (2, .int x2), (3, .int x3), (4, .int x4), (5, .int x5), (7, .int x7)]) hx hb dX7_copy_221 hl (k := 8) rfl rfl (by decide) rfl (fun ls hl => ?_)
  refine lv_goto (tgt := 166) hx hb dX7_copy_224 (by decide) ?_
  obtain rfl := Option.some.inj h
  exact Kn _ rfl _ _ _ hW (lv_sub hl [2, 3, 4, 5, 6, 7, 8, 0] rfl)
def i_X7_copy_166 (S : St) (x1 : Int32) (x2 : Int32) (x3 : Int32) (x4 : Int32) (x5 : Int32) (x7 : Int32) (x8 : Int32) : Option ((St × Int32) ⊕ (St × Int32)) :=
  if x5 ≤ x8 then (some (.inr (S, x8))) else (if x7 = 0 then (j_X7_copy_190 S x1 x2 x3 x4 x5 x7 x8 x8) else (j_X7_copy_190 S x1 x2 x3 x4 x5 x7 x8 ((x5 - ((1 : Int32))) - x8)))
set_option maxHeartbeats 4000000 in
set_option maxRecDepth 100000 in
theorem w_i_X7_copy_166 {G : Geo} {p : Program} {l : Launch} {e : Env} {s : State} {m : MethodId} {args : Array Value} {below : List Frame} {meth : Method} {c : Code} {A : Nat → Prop} {H0 : Heap} {Q : State → Prop} (C : Cx G RX7 cX7_copy 10 p s m args c) {S : St} {x1 : Int32} {x2 : Int32} {x3 : Int32} {x4 : Int32} {x5 : Int32} {x7 : Int32} {x8 : Int32} {o : (St × Int32) ⊕ (St × Int32)} (h : i_X7_copy_166 S x1 x2 x3 x4 x5 x7 x8 = some o) (Kn : ∀ q, o = .inl q → ∀ (H : Heap) (locs : List Loc) (ls : Array Slot), HM G A H0 q.1 H locs → lv_has ls 10 [(0, .ref (adr G 0)), (1, .int x1), (2, .int x2), (3, .int x3), (4, .int x4), (5, .int x5), (7, .int x7), (8, .int (q.2))] → W p l e (rmK 2) s m args below meth c H locs 0 0 Q (F0 m 166 ls [])) (Kt : ∀ q, o = .inr q → ∀ (H : Heap) (locs : List Loc) (ls : Array Slot), HM G A H0 q.1 H locs → lv_has ls 10 [(5, .int x5)] → W p l e (rmK 2) s m args below meth c H locs 0 0 Q (F0 m 227 ls [])) : ∀ (H : Heap) (locs : List Loc) (ls : Array Slot), HM G A H0 S H locs → lv_has ls 10 [(0, .ref (adr G 0)), (1, .int x1), (2, .int x2), (3, .int x3), (4, .int x4), (5, .int x5), (7, .int x7), (8, .int x8)] → W p l e (rmK 2) s m args below meth c H locs 0 0 Q (F0 m 166 ls []) := by
  obtain ⟨hx, hb, -⟩ := id C
  intro H locs ls hW hl
  unfold i_X7_copy_166 at h
  refine lv_iload hx hb dX7_copy_166 (lv_at hl 7 rfl) ?_
  refine lv_iload hx hb dX7_copy_168 (lv_at hl 5 rfl) ?_
  refine lv_icmp_ge (tgt := 227) hx hb dX7_copy_170 (by decide) (fun b170 => ?_) (fun b170 => ?_)
  · have h := it_t b170 h
    obtain rfl := Option.some.inj h
    exact Kt _ rfl _ _ _ hW (lv_sub hl [5] rfl)
  · have h := it_f b170 h
    refine lv_iload hx hb dX7_copy_173 (lv_at hl 6 rfl) ?_
    refine lv_if_eq (tgt := 188) hx hb dX7_copy_175 (by decide) (fun b175 => ?_) (fun b175 => ?_)
    · have h := it_t b175 h
      refine lv_iload hx hb dX7_copy_188 (lv_at hl 7 rfl) ?_
      exact w_j_X7_copy_190 C  h Kn Kt _ _ _ hW (lv_sub hl [0, 1, 2, 3, 4, 5, 6, 7] rfl)
    · have h := it_f b175 h
      refine lv_iload hx hb dX7_copy_178 (lv_at hl 5 rfl) ?_
      refine lv_iconst (v := 1) hx hb dX7_copy_180 (by decide) ?_
      refine lv_isub hx hb dX7_copy_181 ?_
      refine lv_iload hx hb dX7_copy_182 (lv_at hl 7 rfl) ?_
      refine lv_isub hx hb dX7_copy_184 ?_
      refine lv_goto (tgt := 190) hx hb dX7_copy_185 (by decide) ?_
      exact w_j_X7_copy_190 C  h Kn Kt _ _ _ hW (lv_sub hl [0, 1, 2, 3, 4, 5, 6, 7] rfl)
set_option maxHeartbeats 4000000 in
set_option maxRecDepth 100000 in
theorem l_i_X7_copy_166 {G : Geo} {p : Program} {l : Launch} {e : Env} {s : State} {m : MethodId} {args : Array Value} {below : List Frame} {meth : Method} {c : Code} {A : Nat → Prop} {H0 : Heap} {Q : State → Prop} (C : Cx G RX7 cX7_copy 10 p s m args c) {x1 : Int32} {x2 : Int32} {x3 : Int32} {x4 : Int32} {x5 : Int32} {x7 : Int32} {n : Nat} {q0 : St × Int32} {u : St × Int32} (hq : iter (fun q : St × Int32 => i_X7_copy_166 q.1 x1 x2 x3 x4 x5 x7 q.2) n q0 = some u) (Kt : (fun q : St × Int32 => ∀ (H : Heap) (locs : List Loc) (ls : Array Slot), HM G A H0 q.1 H locs → lv_has ls 10 [(5, .int x5)] → W p l e (rmK 2) s m args below meth c H locs 0 0 Q (F0 m 227 ls [])) u) : (fun q : St × Int32 => ∀ (H : Heap) (locs : List Loc) (ls : Array Slot), HM G A H0 q.1 H locs → lv_has ls 10 [(0, .ref (adr G 0)), (1, .int x1), (2, .int x2), (3, .int x3), (4, .int x4), (5, .int x5), (7, .int x7), (8, .int (q.2))] → W p l e (rmK 2) s m args below meth c H locs 0 0 Q (F0 m 166 ls [])) q0 :=
  iter_W (P := fun q : St × Int32 => ∀ (H : Heap) (locs : List Loc) (ls : Array Slot), HM G A H0 q.1 H locs → lv_has ls 10 [(0, .ref (adr G 0)), (1, .int x1), (2, .int x2), (3, .int x3), (4, .int x4), (5, .int x5), (7, .int x7), (8, .int (q.2))] → W p l e (rmK 2) s m args below meth c H locs 0 0 Q (F0 m 166 ls [])) (K := fun q : St × Int32 => ∀ (H : Heap) (locs : List Loc) (ls : Array Slot), HM G A H0 q.1 H locs → lv_has ls 10 [(5, .int x5)] → W p l e (rmK 2) s m args below meth c H locs 0 0 Q (F0 m 227 ls [])) (fun q o hit Kn Kt => w_i_X7_copy_166 C  hit Kn Kt) n q0 u hq Kt
def j_X7_copy_110 (S : St) (x1 : Int32) (x2 : Int32) (x3 : Int32) (x4 : Int32) (x5 : Int32) (y0 : Int32) : Option (Int32 × St) :=
  if y0 = 0 then (bd (f_X7_fails S ((3 : Int32))) fun r146 => some (r146.1, r146.2)) else (ck (okx x1 4) <| if ((S 2 (ix x1)) - x2) < x5 then (bd (f_X7_fails S ((3 : Int32))) fun r146 => some (r146.1, r146.2)) else (ck (okx x3 4) <| if x5 ≤ ((S 2 (ix x3)) - x4) then (if x4 ≤ x2 then (bd (iter (fun q => i_X7_copy_166 q.1 x1 x2 x3 x4 x5 ((0 : Int32)) q.2) BIG (S, (0 : Int32))) fun q166 => some (x5, q166.1)) else (bd (iter (fun q => i_X7_copy_166 q.1 x1 x2 x3 x4 x5 ((1 : Int32)) q.2) BIG (S, (0 : Int32))) fun q166 => some (x5, q166.1))) else (bd (f_X7_fails S ((3 : Int32))) fun r146 => some (r146.1, r146.2))))
set_option maxHeartbeats 4000000 in
set_option maxRecDepth 100000 in
theorem w_j_X7_copy_110 {G : Geo} {p : Program} {l : Launch} {e : Env} {s : State} {m : MethodId} {args : Array Value} {below : List Frame} {meth : Method} {c : Code} {A : Nat → Prop} {H0 : Heap} {Q : State → Prop} (C : Cx G RX7 cX7_copy 10 p s m args c) {S : St} {x1 : Int32} {x2 : Int32} {x3 : Int32} {x4 : Int32} {x5 : Int32} {y0 : Int32} {o : Int32 × St} (h : j_X7_copy_110 S x1 x2 x3 x4 x5 y0 = some o) (K : KI 18 eM G A H0 cX7_copy p l e 2 s m args below meth c Q ((o).1) ((o).2)) : ∀ (H : Heap) (locs : List Loc) (ls : Array Slot), HM G A H0 S H locs → lv_has ls 10 [(0, .ref (adr G 0)), (1, .int x1), (2, .int x2), (3, .int x3), (4, .int x4), (5, .int x5)] → W p l e (rmK 2) s m args below meth c H locs 0 0 Q (F0 m 110 ls [.int y0]) := by
  obtain ⟨hx, hb, -⟩ := id C
  intro H locs ls hW hl
  unfold j_X7_copy_110 at h
  refine lv_istore (lv' := [(6, .int y0), (0, .ref (adr G 0)), (1, .int x1), (2, .int x2), (3, .int x3), (4, .int x4), (5, .int x5)]) hx hb dX7_copy_110 hl (by decide) rfl (fun ls hl => ?_)
  refine lv_iload hx hb dX7_copy_112 (lv_at hl 0 rfl) ?_
  refine lv_if_eq (tgt := 144) hx hb dX7_copy_114 (by decide) (fun b114 => ?_) (fun b114 => ?_)
  · have h := it_t b114 h
    refine lv_aload_n hx hb dX7_copy_144 rfl (lv_at hl 1 rfl) ?_
    refine lv_iconst (v := 3) hx hb dX7_copy_145 (by decide) ?_
    obtain ⟨r146, r146h, h⟩ := bd_some h
    refine x_backI hW (x_runV (As := [.int ((3 : Int32))]) (rest := []) C hW (c_X7_fails l G r146h H.size) cv_RX7_91 rv_X7 hl.1 rfl rfl ⟨by decide, by decide⟩ (Nat.le_of_ble_eq_true rfl) ⟨Nat.zero_le _, Nat.zero_le _⟩ dX7_copy_146) (fun H locs hW => ?_)
    obtain rfl := Option.some.inj h
    exact K _ _ _ _ dX7_copy_149 hW
  · have h := it_f b114 h
    refine lv_iload hx hb dX7_copy_117 (lv_at hl 6 rfl) ?_
    refine lv_aload_n hx hb dX7_copy_119 rfl (lv_at hl 1 rfl) ?_
    refine gf_RX7_13 C hW dX7_copy_120 ?_
    refine lv_iload_n hx hb dX7_copy_123 rfl (lv_at hl 2 rfl) ?_
    obtain ⟨g124, h⟩ := ck_some h
    refine x_iald C hW (k := 2) (n := 4) (by decide) (fun _ => rfl) g124 dX7_copy_124 ?_
    refine lv_iload_n hx hb dX7_copy_125 rfl (lv_at hl 3 rfl) ?_
    refine lv_isub hx hb dX7_copy_126 ?_
    refine lv_icmp_gt (tgt := 144) hx hb dX7_copy_127 (by decide) (fun b127 => ?_) (fun b127 => ?_)
    · have h := it_t b127 h
      refine lv_aload_n hx hb dX7_copy_144 rfl (lv_at hl 1 rfl) ?_
      refine lv_iconst (v := 3) hx hb dX7_copy_145 (by decide) ?_
      obtain ⟨r146, r146h, h⟩ := bd_some h
      refine x_backI hW (x_runV (As := [.int ((3 : Int32))]) (rest := []) C hW (c_X7_fails l G r146h H.size) cv_RX7_91 rv_X7 hl.1 rfl rfl ⟨by decide, by decide⟩ (Nat.le_of_ble_eq_true rfl) ⟨Nat.zero_le _, Nat.zero_le _⟩ dX7_copy_146) (fun H locs hW => ?_)
      obtain rfl := Option.some.inj h
      exact K _ _ _ _ dX7_copy_149 hW
    · have h := it_f b127 h
      refine lv_iload hx hb dX7_copy_130 (lv_at hl 6 rfl) ?_
      refine lv_aload_n hx hb dX7_copy_132 rfl (lv_at hl 1 rfl) ?_
      refine gf_RX7_13 C hW dX7_copy_133 ?_
      refine lv_iload_n hx hb dX7_copy_136 rfl (lv_at hl 4 rfl) ?_
      obtain ⟨g137, h⟩ := ck_some h
      refine x_iald C hW (k := 2) (n := 4) (by decide) (fun _ => rfl) g137 dX7_copy_137 ?_
      refine lv_iload hx hb dX7_copy_138 (lv_at hl 5 rfl) ?_
      refine lv_isub hx hb dX7_copy_140 ?_
      refine lv_icmp_le (tgt := 150) hx hb dX7_copy_141 (by decide) (fun b141 => ?_) (fun b141 => ?_)
      · have h := it_t b141 h
        refine lv_iload_n hx hb dX7_copy_150 rfl (lv_at hl 3 rfl) ?_
        refine lv_iload hx hb dX7_copy_151 (lv_at hl 5 rfl) ?_
        refine lv_icmp_ge (tgt := 160) hx hb dX7_copy_153 (by decide) (fun b153 => ?_) (fun b153 => ?_)
        · have h := it_t b153 h
          refine lv_iconst (v := 0) hx hb dX7_copy_160 (by decide) ?_
          refine lv_istore (lv' := [(7, .int ((0 : Int32))), (6, .int y0), (0, .ref (adr G 0)), (1, .int x1), (2, .int x2), (3, .int x3), (4, .int x4), (5, .int x5)]) hx hb dX7_copy_161 hl (by decide) rfl (fun ls hl => ?_)
          refine lv_iconst (v := 0) hx hb dX7_copy_163 (by decide) ?_
          refine lv_istore (lv' := [(8, .int ((0 : Int32))), (7, .int ((0 : Int32))), (6, .int y0), (0, .ref (adr G 0)), (1, .int x1), (2, .int x2), (3, .int x3), (4, .int x4), (5, .int x5)]) hx hb dX7_copy_164 hl (by decide) rfl (fun ls hl => ?_)
          obtain ⟨q166, q166h, h⟩ := bd_some h
          refine l_i_X7_copy_166 C  q166h ?_ _ _ _ hW (lv_sub hl [3, 4, 5, 6, 7, 8, 1, 0] rfl)
          intro H locs ls hW hl
          refine lv_iload hx hb dX7_copy_227 (lv_at hl 0 rfl) ?_
          obtain rfl := Option.some.inj h
          exact K _ _ _ _ dX7_copy_229 hW
        · have h := it_f b153 h
          refine lv_iconst (v := 1) hx hb dX7_copy_156 (by decide) ?_
          refine lv_goto (tgt := 161) hx hb dX7_copy_157 (by decide) ?_
          refine lv_istore (lv' := [(7, .int ((1 : Int32))), (6, .int y0), (0, .ref (adr G 0)), (1, .int x1), (2, .int x2), (3, .int x3), (4, .int x4), (5, .int x5)]) hx hb dX7_copy_161 hl (by decide) rfl (fun ls hl => ?_)
          refine lv_iconst (v := 0) hx hb dX7_copy_163 (by decide) ?_
          refine lv_istore (lv' := [(8, .int ((0 : Int32))), (7, .int ((1 : Int32))), (6, .int y0), (0, .ref (adr G 0)), (1, .int x1), (2, .int x2), (3, .int x3), (4, .int x4), (5, .int x5)]) hx hb dX7_copy_164 hl (by decide) rfl (fun ls hl => ?_)
          obtain ⟨q166, q166h, h⟩ := bd_some h
          refine l_i_X7_copy_166 C  q166h ?_ _ _ _ hW (lv_sub hl [3, 4, 5, 6, 7, 8, 1, 0] rfl)
          intro H locs ls hW hl
          refine lv_iload hx hb dX7_copy_227 (lv_at hl 0 rfl) ?_
          obtain rfl := Option.some.inj h
          exact K _ _ _ _ dX7_copy_229 hW
      · have h := it_f b141 h
        refine lv_aload_n hx hb dX7_copy_144 rfl (lv_at hl 1 rfl) ?_
        refine lv_iconst (v := 3) hx hb dX7_copy_145 (by decide) ?_
        obtain ⟨r146, r146h, h⟩ := bd_some h
        refine x_backI hW (x_runV (As := [.int ((3 : Int32))]) (rest := []) C hW (c_X7_fails l G r146h H.size) cv_RX7_91 rv_X7 hl.1 rfl rfl ⟨by decide, by decide⟩ (Nat.le_of_ble_eq_true rfl) ⟨Nat.zero_le _, Nat.zero_le _⟩ dX7_copy_146) (fun H locs hW => ?_)
        obtain rfl := Option.some.inj h
        exact K _ _ _ _ dX7_copy_149 hW
def j_X7_copy_109 (S : St) (x1 : Int32) (x2 : Int32) (x3 : Int32) (x4 : Int32) (x5 : Int32) : Option (Int32 × St) :=
  j_X7_copy_110 S x1 x2 x3 x4 x5 ((0 : Int32))
set_option maxHeartbeats 4000000 in
set_option maxRecDepth 100000 in
theorem w_j_X7_copy_109 {G : Geo} {p : Program} {l : Launch} {e : Env} {s : State} {m : MethodId} {args : Array Value} {below : List Frame} {meth : Method} {c : Code} {A : Nat → Prop} {H0 : Heap} {Q : State → Prop} (C : Cx G RX7 cX7_copy 10 p s m args c) {S : St} {x1 : Int32} {x2 : Int32} {x3 : Int32} {x4 : Int32} {x5 : Int32} {o : Int32 × St} (h : j_X7_copy_109 S x1 x2 x3 x4 x5 = some o) (K : KI 18 eM G A H0 cX7_copy p l e 2 s m args below meth c Q ((o).1) ((o).2)) : ∀ (H : Heap) (locs : List Loc) (ls : Array Slot), HM G A H0 S H locs → lv_has ls 10 [(0, .ref (adr G 0)), (1, .int x1), (2, .int x2), (3, .int x3), (4, .int x4), (5, .int x5)] → W p l e (rmK 2) s m args below meth c H locs 0 0 Q (F0 m 109 ls []) := by
  obtain ⟨hx, hb, -⟩ := id C
  intro H locs ls hW hl
  unfold j_X7_copy_109 at h
  refine lv_iconst (v := 0) hx hb dX7_copy_109 (by decide) ?_
  exact w_j_X7_copy_110 C  h K _ _ _ hW (lv_sub hl [0, 1, 2, 3, 4, 5] rfl)
def f_X7_copy (S : St) (a0 : Int32) (a1 : Int32) (a2 : Int32) (a3 : Int32) (a4 : Int32) : Option (Int32 × St) :=
  bd (f_X7_isSheet a0) fun r6 => if r6 = false then (some ((-1 : Int32), up S 0 0 ((0 : Int32)))) else (bd (f_X7_isSheet a2) fun r13 => if r13 = true then (ck (okx a0 4) <| if ((up S 0 0 ((0 : Int32))) 1 (ix a0)) = ((-9 : Int32)) then (bd (f_X7_fails (up S 0 0 ((0 : Int32))) ((1 : Int32))) fun r45 => some (r45.1, r45.2)) else (ck (okx a2 4) <| if ((up S 0 0 ((0 : Int32))) 1 (ix a2)) = ((-9 : Int32)) then (bd (f_X7_fails (up S 0 0 ((0 : Int32))) ((1 : Int32))) fun r45 => some (r45.1, r45.2)) else (ck (okx a0 4) <| ck (okx a2 4) <| if ((up S 0 0 ((0 : Int32))) 1 (ix a0)) = ((up S 0 0 ((0 : Int32))) 1 (ix a2)) then (if a1 < 0 then (j_X7_copy_109 (up S 0 0 ((0 : Int32))) a0 a1 a2 a3 a4) else (if a3 < 0 then (j_X7_copy_109 (up S 0 0 ((0 : Int32))) a0 a1 a2 a3 a4) else (if a4 < 0 then (j_X7_copy_109 (up S 0 0 ((0 : Int32))) a0 a1 a2 a3 a4) else (ck (okx a0 4) <| if ((up S 0 0 ((0 : Int32))) 2 (ix a0)) < a1 then (j_X7_copy_109 (up S 0 0 ((0 : Int32))) a0 a1 a2 a3 a4) else (ck (okx a2 4) <| if ((up S 0 0 ((0 : Int32))) 2 (ix a2)) < a3 then (j_X7_copy_109 (up S 0 0 ((0 : Int32))) a0 a1 a2 a3 a4) else (j_X7_copy_110 (up S 0 0 ((0 : Int32))) a0 a1 a2 a3 a4 ((1 : Int32)))))))) else (bd (f_X7_fails (up S 0 0 ((0 : Int32))) ((2 : Int32))) fun r66 => some (r66.1, r66.2))))) else (some ((-1 : Int32), up S 0 0 ((0 : Int32)))))
set_option maxHeartbeats 4000000 in
set_option maxRecDepth 100000 in
theorem w_f_X7_copy {G : Geo} {p : Program} {l : Launch} {e : Env} {s : State} {m : MethodId} {args : Array Value} {below : List Frame} {meth : Method} {c : Code} {A : Nat → Prop} {H0 : Heap} {Q : State → Prop} (C : Cx G RX7 cX7_copy 10 p s m args c) {S : St} {a0 : Int32} {a1 : Int32} {a2 : Int32} {a3 : Int32} {a4 : Int32} {o : Int32 × St} (h : f_X7_copy S a0 a1 a2 a3 a4 = some o) (K : KI 18 eM G A H0 cX7_copy p l e 2 s m args below meth c Q ((o).1) ((o).2)) : ∀ (H : Heap) (locs : List Loc) (ls : Array Slot), HM G A H0 S H locs → lv_has ls 10 [(0, .ref (adr G 0)), (1, .int a0), (2, .int a1), (3, .int a2), (4, .int a3), (5, .int a4)] → W p l e (rmK 2) s m args below meth c H locs 0 0 Q (F0 m 0 ls []) := by
  obtain ⟨hx, hb, -⟩ := id C
  intro H locs ls hW hl
  unfold f_X7_copy at h
  refine lv_aload_n hx hb dX7_copy_0 rfl (lv_at hl 0 rfl) ?_
  refine lv_iconst (v := 0) hx hb dX7_copy_1 (by decide) ?_
  refine pf_RX7_61 C hW dX7_copy_2 (fun H locs hW => ?_)
  refine lv_iload_n hx hb dX7_copy_5 rfl (lv_at hl 1 rfl) ?_
  obtain ⟨r6, r6h, h⟩ := bd_some h
  refine x_backI hW (x_runS (As := [.int a0]) (rest := []) C hW (c_X7_isSheet l G (S := up S 0 0 ((0 : Int32))) r6h H.size) cs_RX7_80 hl.1 rfl rfl ⟨by decide, by decide⟩ (Nat.le_of_ble_eq_true rfl) ⟨Nat.zero_le _, Nat.zero_le _⟩ dX7_copy_6) (fun H locs hW => ?_)
  refine z_if_eq (tgt := 19) hx hb dX7_copy_9 (by decide) (fun b9 => ?_) (fun b9 => ?_)
  · have h := it_t b9 h
    refine lv_iconst (v := (-1)) hx hb dX7_copy_19 (by decide) ?_
    obtain rfl := Option.some.inj h
    exact K _ _ _ _ dX7_copy_20 hW
  · have h := it_f b9 h
    refine lv_iload_n hx hb dX7_copy_12 rfl (lv_at hl 3 rfl) ?_
    obtain ⟨r13, r13h, h⟩ := bd_some h
    refine x_backI hW (x_runS (As := [.int a2]) (rest := []) C hW (c_X7_isSheet l G (S := up S 0 0 ((0 : Int32))) r13h H.size) cs_RX7_80 hl.1 rfl rfl ⟨by decide, by decide⟩ (Nat.le_of_ble_eq_true rfl) ⟨Nat.zero_le _, Nat.zero_le _⟩ dX7_copy_13) (fun H locs hW => ?_)
    refine z_if_ne (tgt := 21) hx hb dX7_copy_16 (by decide) (fun b16 => ?_) (fun b16 => ?_)
    · have h := it_t b16 h
      refine lv_aload_n hx hb dX7_copy_21 rfl (lv_at hl 0 rfl) ?_
      refine gf_RX7_9 C hW dX7_copy_22 ?_
      refine lv_iload_n hx hb dX7_copy_25 rfl (lv_at hl 1 rfl) ?_
      obtain ⟨g26, h⟩ := ck_some h
      refine x_iald C hW (k := 1) (n := 4) (by decide) (fun _ => rfl) g26 dX7_copy_26 ?_
      refine lv_bipush (v := (-9)) hx hb dX7_copy_27 (by decide) ?_
      refine lv_icmp_eq (tgt := 43) hx hb dX7_copy_29 (by decide) (fun b29 => ?_) (fun b29 => ?_)
      · have h := it_t b29 h
        refine lv_aload_n hx hb dX7_copy_43 rfl (lv_at hl 0 rfl) ?_
        refine lv_iconst (v := 1) hx hb dX7_copy_44 (by decide) ?_
        obtain ⟨r45, r45h, h⟩ := bd_some h
        refine x_backI hW (x_runV (As := [.int ((1 : Int32))]) (rest := []) C hW (c_X7_fails l G r45h H.size) cv_RX7_91 rv_X7 hl.1 rfl rfl ⟨by decide, by decide⟩ (Nat.le_of_ble_eq_true rfl) ⟨Nat.zero_le _, Nat.zero_le _⟩ dX7_copy_45) (fun H locs hW => ?_)
        obtain rfl := Option.some.inj h
        exact K _ _ _ _ dX7_copy_48 hW
      · have h := it_f b29 h
        refine lv_aload_n hx hb dX7_copy_32 rfl (lv_at hl 0 rfl) ?_
        refine gf_RX7_9 C hW dX7_copy_33 ?_
        refine lv_iload_n hx hb dX7_copy_36 rfl (lv_at hl 3 rfl) ?_
        obtain ⟨g37, h⟩ := ck_some h
        refine x_iald C hW (k := 1) (n := 4) (by decide) (fun _ => rfl) g37 dX7_copy_37 ?_
        refine lv_bipush (v := (-9)) hx hb dX7_copy_38 (by decide) ?_
        refine lv_icmp_ne (tgt := 49) hx hb dX7_copy_40 (by decide) (fun b40 => ?_) (fun b40 => ?_)
        · have h := it_f b40 h
          refine lv_aload_n hx hb dX7_copy_49 rfl (lv_at hl 0 rfl) ?_
          refine gf_RX7_9 C hW dX7_copy_50 ?_
          refine lv_iload_n hx hb dX7_copy_53 rfl (lv_at hl 1 rfl) ?_
          obtain ⟨g54, h⟩ := ck_some h
          refine x_iald C hW (k := 1) (n := 4) (by decide) (fun _ => rfl) g54 dX7_copy_54 ?_
          refine lv_aload_n hx hb dX7_copy_55 rfl (lv_at hl 0 rfl) ?_
          refine gf_RX7_9 C hW dX7_copy_56 ?_
          refine lv_iload_n hx hb dX7_copy_59 rfl (lv_at hl 3 rfl) ?_
          obtain ⟨g60, h⟩ := ck_some h
          refine x_iald C hW (k := 1) (n := 4) (by decide) (fun _ => rfl) g60 dX7_copy_60 ?_
          refine lv_icmp_eq (tgt := 70) hx hb dX7_copy_61 (by decide) (fun b61 => ?_) (fun b61 => ?_)
          · have h := it_t b61 h
            refine lv_iload_n hx hb dX7_copy_70 rfl (lv_at hl 2 rfl) ?_
            refine lv_if_lt (tgt := 109) hx hb dX7_copy_71 (by decide) (fun b71 => ?_) (fun b71 => ?_)
            · have h := it_t b71 h
              exact w_j_X7_copy_109 C  h K _ _ _ hW (lv_sub hl [0, 1, 2, 3, 4, 5] rfl)
            · have h := it_f b71 h
              refine lv_iload hx hb dX7_copy_74 (lv_at hl 4 rfl) ?_
              refine lv_if_lt (tgt := 109) hx hb dX7_copy_76 (by decide) (fun b76 => ?_) (fun b76 => ?_)
              · have h := it_t b76 h
                exact w_j_X7_copy_109 C  h K _ _ _ hW (lv_sub hl [0, 1, 2, 3, 4, 5] rfl)
              · have h := it_f b76 h
                refine lv_iload hx hb dX7_copy_79 (lv_at hl 5 rfl) ?_
                refine lv_if_lt (tgt := 109) hx hb dX7_copy_81 (by decide) (fun b81 => ?_) (fun b81 => ?_)
                · have h := it_t b81 h
                  exact w_j_X7_copy_109 C  h K _ _ _ hW (lv_sub hl [0, 1, 2, 3, 4, 5] rfl)
                · have h := it_f b81 h
                  refine lv_iload_n hx hb dX7_copy_84 rfl (lv_at hl 2 rfl) ?_
                  refine lv_aload_n hx hb dX7_copy_85 rfl (lv_at hl 0 rfl) ?_
                  refine gf_RX7_13 C hW dX7_copy_86 ?_
                  refine lv_iload_n hx hb dX7_copy_89 rfl (lv_at hl 1 rfl) ?_
                  obtain ⟨g90, h⟩ := ck_some h
                  refine x_iald C hW (k := 2) (n := 4) (by decide) (fun _ => rfl) g90 dX7_copy_90 ?_
                  refine lv_icmp_gt (tgt := 109) hx hb dX7_copy_91 (by decide) (fun b91 => ?_) (fun b91 => ?_)
                  · have h := it_t b91 h
                    exact w_j_X7_copy_109 C  h K _ _ _ hW (lv_sub hl [0, 1, 2, 3, 4, 5] rfl)
                  · have h := it_f b91 h
                    refine lv_iload hx hb dX7_copy_94 (lv_at hl 4 rfl) ?_
                    refine lv_aload_n hx hb dX7_copy_96 rfl (lv_at hl 0 rfl) ?_
                    refine gf_RX7_13 C hW dX7_copy_97 ?_
                    refine lv_iload_n hx hb dX7_copy_100 rfl (lv_at hl 3 rfl) ?_
                    obtain ⟨g101, h⟩ := ck_some h
                    refine x_iald C hW (k := 2) (n := 4) (by decide) (fun _ => rfl) g101 dX7_copy_101 ?_
                    refine lv_icmp_gt (tgt := 109) hx hb dX7_copy_102 (by decide) (fun b102 => ?_) (fun b102 => ?_)
                    · have h := it_t b102 h
                      exact w_j_X7_copy_109 C  h K _ _ _ hW (lv_sub hl [0, 1, 2, 3, 4, 5] rfl)
                    · have h := it_f b102 h
                      refine lv_iconst (v := 1) hx hb dX7_copy_105 (by decide) ?_
                      refine lv_goto (tgt := 110) hx hb dX7_copy_106 (by decide) ?_
                      exact w_j_X7_copy_110 C  h K _ _ _ hW (lv_sub hl [0, 1, 2, 3, 4, 5] rfl)
          · have h := it_f b61 h
            refine lv_aload_n hx hb dX7_copy_64 rfl (lv_at hl 0 rfl) ?_
            refine lv_iconst (v := 2) hx hb dX7_copy_65 (by decide) ?_
            obtain ⟨r66, r66h, h⟩ := bd_some h
            refine x_backI hW (x_runV (As := [.int ((2 : Int32))]) (rest := []) C hW (c_X7_fails l G r66h H.size) cv_RX7_91 rv_X7 hl.1 rfl rfl ⟨by decide, by decide⟩ (Nat.le_of_ble_eq_true rfl) ⟨Nat.zero_le _, Nat.zero_le _⟩ dX7_copy_66) (fun H locs hW => ?_)
            obtain rfl := Option.some.inj h
            exact K _ _ _ _ dX7_copy_69 hW
        · have h := it_t b40 h
          refine lv_aload_n hx hb dX7_copy_43 rfl (lv_at hl 0 rfl) ?_
          refine lv_iconst (v := 1) hx hb dX7_copy_44 (by decide) ?_
          obtain ⟨r45, r45h, h⟩ := bd_some h
          refine x_backI hW (x_runV (As := [.int ((1 : Int32))]) (rest := []) C hW (c_X7_fails l G r45h H.size) cv_RX7_91 rv_X7 hl.1 rfl rfl ⟨by decide, by decide⟩ (Nat.le_of_ble_eq_true rfl) ⟨Nat.zero_le _, Nat.zero_le _⟩ dX7_copy_45) (fun H locs hW => ?_)
          obtain rfl := Option.some.inj h
          exact K _ _ _ _ dX7_copy_48 hW
    · have h := it_f b16 h
      refine lv_iconst (v := (-1)) hx hb dX7_copy_19 (by decide) ?_
      obtain rfl := Option.some.inj h
      exact K _ _ _ _ dX7_copy_20 hW
set_option maxRecDepth 100000 in
theorem c_X7_copy (l : Launch) (G : Geo) {S : St} {a0 : Int32} {a1 : Int32} {a2 : Int32} {a3 : Int32} {a4 : Int32} {o : Int32 × St} (h : f_X7_copy S a0 a1 a2 a3 a4 = some o) : MI 18 eM G l yX7_copy cX7_copy 10 (some .int) 2 [.ref (adr G 0), .int a0, .int a1, .int a2, .int a3, .int a4] S o.1 o.2 :=
  mI_of (by decide +kernel) (Nat.le_of_ble_eq_true rfl) (fun p e s m below meth c A H0 Q C K => w_f_X7_copy C h K)
def i_X7_darkNow_4 (S : St) (x1 : Int32) (x2 : Int32) : Option ((Int32 × Int32) ⊕ (Int32 × Int32)) :=
  if (S 0 5) ≤ x2 then (some (.inr (x1, x2))) else (ck (okx x2 5) <| if (S 5 (ix x2)) = 0 then (some (.inl (x1 + ((1 : Int32)), x2 + (1 : Int32)))) else (some (.inl (x1 + ((0 : Int32)), x2 + (1 : Int32)))))
set_option maxHeartbeats 4000000 in
set_option maxRecDepth 100000 in
theorem w_i_X7_darkNow_4 {G : Geo} {p : Program} {l : Launch} {e : Env} {s : State} {m : MethodId} {args : Array Value} {below : List Frame} {meth : Method} {c : Code} {A : Nat → Prop} {H0 : Heap} {Q : State → Prop} (C : Cx G RX7 cX7_darkNow 3 p s m args c) {S : St} {x1 : Int32} {x2 : Int32} {o : (Int32 × Int32) ⊕ (Int32 × Int32)} (h : i_X7_darkNow_4 S x1 x2 = some o) (Kn : ∀ q, o = .inl q → ∀ (H : Heap) (locs : List Loc) (ls : Array Slot), HM G A H0 S H locs → lv_has ls 3 [(0, .ref (adr G 0)), (1, .int (q.1)), (2, .int (q.2))] → W p l e (rmK 0) s m args below meth c H locs 0 0 Q (F0 m 4 ls [])) (Kt : ∀ q, o = .inr q → ∀ (H : Heap) (locs : List Loc) (ls : Array Slot), HM G A H0 S H locs → lv_has ls 3 [(1, .int (q.1))] → W p l e (rmK 0) s m args below meth c H locs 0 0 Q (F0 m 35 ls [])) : ∀ (H : Heap) (locs : List Loc) (ls : Array Slot), HM G A H0 S H locs → lv_has ls 3 [(0, .ref (adr G 0)), (1, .int x1), (2, .int x2)] → W p l e (rmK 0) s m args below meth c H locs 0 0 Q (F0 m 4 ls []) := by
  obtain ⟨hx, hb, -⟩ := id C
  intro H locs ls hW hl
  unfold i_X7_darkNow_4 at h
  refine lv_iload_n hx hb dX7_darkNow_4 rfl (lv_at hl 2 rfl) ?_
  refine lv_aload_n hx hb dX7_darkNow_5 rfl (lv_at hl 0 rfl) ?_
  refine gf_RX7_71 C hW dX7_darkNow_6 ?_
  refine lv_icmp_ge (tgt := 35) hx hb dX7_darkNow_9 (by decide) (fun b9 => ?_) (fun b9 => ?_)
  · have h := it_t b9 h
    obtain rfl := Option.some.inj h
    exact Kt _ rfl _ _ _ hW (lv_sub hl [1] rfl)
  · have h := it_f b9 h
    refine lv_iload_n hx hb dX7_darkNow_12 rfl (lv_at hl 1 rfl) ?_
    refine lv_aload_n hx hb dX7_darkNow_13 rfl (lv_at hl 0 rfl) ?_
    refine gf_RX7_22 C hW dX7_darkNow_14 ?_
    refine lv_iload_n hx hb dX7_darkNow_17 rfl (lv_at hl 2 rfl) ?_
    obtain ⟨g18, h⟩ := ck_some h
    refine x_iald C hW (k := 5) (n := 5) (by decide) (fun _ => rfl) g18 dX7_darkNow_18 ?_
    refine lv_if_ne (tgt := 26) hx hb dX7_darkNow_19 (by decide) (fun b19 => ?_) (fun b19 => ?_)
    · have h := it_f b19 h
      refine lv_iconst (v := 0) hx hb dX7_darkNow_26 (by decide) ?_
      refine lv_iadd hx hb dX7_darkNow_27 ?_
      refine lv_istore_n (lv' := [(1, .int (x1 + ((0 : Int32)))), (0, .ref (adr G 0)), (2, .int x2)]) hx hb dX7_darkNow_28 rfl hl (by decide) rfl (fun ls hl => ?_)
      refine lv_iinc (v := (x2 + (1 : Int32))) (lv' := [(2, .int (x2 + (1 : Int32))), (1, .int (x1 + ((0 : Int32)))), (0, .ref (adr G 0))]) hx hb dX7_darkNow_29 hl (k := 2) rfl rfl (by decide) rfl (fun ls hl => ?_)
      refine lv_goto (tgt := 4) hx hb dX7_darkNow_32 (by decide) ?_
      obtain rfl := Option.some.inj h
      exact Kn _ rfl _ _ _ hW (lv_sub hl [2, 1, 0] rfl)
    · have h := it_t b19 h
      refine lv_iconst (v := 1) hx hb dX7_darkNow_22 (by decide) ?_
      refine lv_goto (tgt := 27) hx hb dX7_darkNow_23 (by decide) ?_
      refine lv_iadd hx hb dX7_darkNow_27 ?_
      refine lv_istore_n (lv' := [(1, .int (x1 + ((1 : Int32)))), (0, .ref (adr G 0)), (2, .int x2)]) hx hb dX7_darkNow_28 rfl hl (by decide) rfl (fun ls hl => ?_)
      refine lv_iinc (v := (x2 + (1 : Int32))) (lv' := [(2, .int (x2 + (1 : Int32))), (1, .int (x1 + ((1 : Int32)))), (0, .ref (adr G 0))]) hx hb dX7_darkNow_29 hl (k := 2) rfl rfl (by decide) rfl (fun ls hl => ?_)
      refine lv_goto (tgt := 4) hx hb dX7_darkNow_32 (by decide) ?_
      obtain rfl := Option.some.inj h
      exact Kn _ rfl _ _ _ hW (lv_sub hl [2, 1, 0] rfl)
set_option maxHeartbeats 4000000 in
set_option maxRecDepth 100000 in
theorem l_i_X7_darkNow_4 {G : Geo} {p : Program} {l : Launch} {e : Env} {s : State} {m : MethodId} {args : Array Value} {below : List Frame} {meth : Method} {c : Code} {A : Nat → Prop} {H0 : Heap} {Q : State → Prop} (C : Cx G RX7 cX7_darkNow 3 p s m args c) {S : St}  {n : Nat} {q0 : Int32 × Int32} {u : Int32 × Int32} (hq : iter (fun q : Int32 × Int32 => i_X7_darkNow_4 S q.1 q.2) n q0 = some u) (Kt : (fun q : Int32 × Int32 => ∀ (H : Heap) (locs : List Loc) (ls : Array Slot), HM G A H0 S H locs → lv_has ls 3 [(1, .int (q.1))] → W p l e (rmK 0) s m args below meth c H locs 0 0 Q (F0 m 35 ls [])) u) : (fun q : Int32 × Int32 => ∀ (H : Heap) (locs : List Loc) (ls : Array Slot), HM G A H0 S H locs → lv_has ls 3 [(0, .ref (adr G 0)), (1, .int (q.1)), (2, .int (q.2))] → W p l e (rmK 0) s m args below meth c H locs 0 0 Q (F0 m 4 ls [])) q0 :=
  iter_W (P := fun q : Int32 × Int32 => ∀ (H : Heap) (locs : List Loc) (ls : Array Slot), HM G A H0 S H locs → lv_has ls 3 [(0, .ref (adr G 0)), (1, .int (q.1)), (2, .int (q.2))] → W p l e (rmK 0) s m args below meth c H locs 0 0 Q (F0 m 4 ls [])) (K := fun q : Int32 × Int32 => ∀ (H : Heap) (locs : List Loc) (ls : Array Slot), HM G A H0 S H locs → lv_has ls 3 [(1, .int (q.1))] → W p l e (rmK 0) s m args below meth c H locs 0 0 Q (F0 m 35 ls [])) (fun q o hit Kn Kt => w_i_X7_darkNow_4 C  hit Kn Kt) n q0 u hq Kt
def f_X7_darkNow (S : St) : Option (Int32) :=
  bd (iter (fun q => i_X7_darkNow_4 S q.1 q.2) BIG ((0 : Int32), (0 : Int32))) fun q4 => some q4.1
set_option maxHeartbeats 4000000 in
set_option maxRecDepth 100000 in
theorem w_f_X7_darkNow {G : Geo} {p : Program} {l : Launch} {e : Env} {s : State} {m : MethodId} {args : Array Value} {below : List Frame} {meth : Method} {c : Code} {A : Nat → Prop} {H0 : Heap} {Q : State → Prop} (C : Cx G RX7 cX7_darkNow 3 p s m args c) {S : St}  {o : Int32} (h : f_X7_darkNow S = some o) (K : KI 18 eM G A H0 cX7_darkNow p l e 0 s m args below meth c Q o S) : ∀ (H : Heap) (locs : List Loc) (ls : Array Slot), HM G A H0 S H locs → lv_has ls 3 [(0, .ref (adr G 0))] → W p l e (rmK 0) s m args below meth c H locs 0 0 Q (F0 m 0 ls []) := by
  obtain ⟨hx, hb, -⟩ := id C
  intro H locs ls hW hl
  unfold f_X7_darkNow at h
  refine lv_iconst (v := 0) hx hb dX7_darkNow_0 (by decide) ?_
  refine lv_istore_n (lv' := [(1, .int ((0 : Int32))), (0, .ref (adr G 0))]) hx hb dX7_darkNow_1 rfl hl (by decide) rfl (fun ls hl => ?_)
  refine lv_iconst (v := 0) hx hb dX7_darkNow_2 (by decide) ?_
  refine lv_istore_n (lv' := [(2, .int ((0 : Int32))), (1, .int ((0 : Int32))), (0, .ref (adr G 0))]) hx hb dX7_darkNow_3 rfl hl (by decide) rfl (fun ls hl => ?_)
  obtain ⟨q4, q4h, h⟩ := bd_some h
  refine l_i_X7_darkNow_4 C  q4h ?_ _ _ _ hW (lv_sub hl [2, 1, 0] rfl)
  intro H locs ls hW hl
  refine lv_iload_n hx hb dX7_darkNow_35 rfl (lv_at hl 0 rfl) ?_
  obtain rfl := Option.some.inj h
  exact K _ _ _ _ dX7_darkNow_36 hW
set_option maxRecDepth 100000 in
theorem c_X7_darkNow (l : Launch) (G : Geo) {S : St}  {o : Int32} (h : f_X7_darkNow S = some o) : MI 18 eM G l yX7_darkNow cX7_darkNow 3 (some .int) 0 [.ref (adr G 0)] S o S :=
  mI_of (by decide +kernel) (Nat.le_of_ble_eq_true rfl) (fun p e s m below meth c A H0 Q C K => w_f_X7_darkNow C h K)
