def f_X1_hasLamp (S : St) (a0 : Int32) : Option (Bool) :=
  if a0 < 0 then (some false) else (if (S 1 0) ≤ a0 then (some false) else (some true))
set_option maxHeartbeats 4000000 in
set_option maxRecDepth 100000 in
theorem w_f_X1_hasLamp {G : Geo} {p : Program} {l : Launch} {e : Env} {s : State} {m : MethodId} {args : Array Value} {below : List Frame} {meth : Method} {c : Code} {A : Nat → Prop} {H0 : Heap} {Q : State → Prop} (C : Cx G RX1 cX1_hasLamp 2 p s m args c) {S : St} {a0 : Int32} {o : Bool} (h : f_X1_hasLamp S a0 = some o) (K : KI 37 eX G A H0 cX1_hasLamp p l e 0 s m args below meth c Q (bi o) S) : ∀ (H : Heap) (locs : List Loc) (ls : Array Slot), HX G A H0 S H locs → lv_has ls 2 [(0, .ref (adr G 1)), (1, .int a0)] → W p l e (rmK 0) s m args below meth c H locs 0 0 Q (F0 m 0 ls []) := by
  obtain ⟨hx, hb, -⟩ := id C
  intro H locs ls hW hl
  unfold f_X1_hasLamp at h
  refine lv_iload_n hx hb dX1_hasLamp_0 rfl (lv_at hl 1 rfl) ?_
  refine lv_if_lt (tgt := 16) hx hb dX1_hasLamp_1 (by decide) (fun b1 => ?_) (fun b1 => ?_)
  · have h := it_t b1 h
    refine lv_iconst (v := 0) hx hb dX1_hasLamp_16 (by decide) ?_
    obtain rfl := Option.some.inj h
    exact K _ _ _ _ dX1_hasLamp_17 hW
  · have h := it_f b1 h
    refine lv_iload_n hx hb dX1_hasLamp_4 rfl (lv_at hl 1 rfl) ?_
    refine lv_aload_n hx hb dX1_hasLamp_5 rfl (lv_at hl 0 rfl) ?_
    refine gf_RX1_30 C hW dX1_hasLamp_6 ?_
    refine lv_icmp_ge (tgt := 16) hx hb dX1_hasLamp_9 (by decide) (fun b9 => ?_) (fun b9 => ?_)
    · have h := it_t b9 h
      refine lv_iconst (v := 0) hx hb dX1_hasLamp_16 (by decide) ?_
      obtain rfl := Option.some.inj h
      exact K _ _ _ _ dX1_hasLamp_17 hW
    · have h := it_f b9 h
      refine lv_iconst (v := 1) hx hb dX1_hasLamp_12 (by decide) ?_
      refine lv_goto (tgt := 17) hx hb dX1_hasLamp_13 (by decide) ?_
      obtain rfl := Option.some.inj h
      exact K _ _ _ _ dX1_hasLamp_17 hW
set_option maxRecDepth 100000 in
theorem c_X1_hasLamp (l : Launch) (G : Geo) {S : St} {a0 : Int32} {o : Bool} (h : f_X1_hasLamp S a0 = some o) : MI 37 eX G l yX1_hasLamp cX1_hasLamp 2 (some .boolean) 0 [.ref (adr G 1), .int a0] S (bi o) S :=
  mZ_of (by decide +kernel) (Nat.le_of_ble_eq_true rfl) (fun p e s m below meth c A H0 Q C K => w_f_X1_hasLamp C h K)
def f_X1_hasShade (S : St) (a0 : Int32) (a1 : Int32) : Option (Bool) :=
  bd (f_X1_hasLamp S a0) fun r2 => if r2 = false then (some false) else (if a1 < 0 then (some false) else (ck (okx a0 5) <| if (S 22 (ix a0)) ≤ a1 then (some false) else (some true)))
set_option maxHeartbeats 4000000 in
set_option maxRecDepth 100000 in
theorem w_f_X1_hasShade {G : Geo} {p : Program} {l : Launch} {e : Env} {s : State} {m : MethodId} {args : Array Value} {below : List Frame} {meth : Method} {c : Code} {A : Nat → Prop} {H0 : Heap} {Q : State → Prop} (C : Cx G RX1 cX1_hasShade 3 p s m args c) {S : St} {a0 : Int32} {a1 : Int32} {o : Bool} (h : f_X1_hasShade S a0 a1 = some o) (K : KI 37 eX G A H0 cX1_hasShade p l e 1 s m args below meth c Q (bi o) S) : ∀ (H : Heap) (locs : List Loc) (ls : Array Slot), HX G A H0 S H locs → lv_has ls 3 [(0, .ref (adr G 1)), (1, .int a0), (2, .int a1)] → W p l e (rmK 1) s m args below meth c H locs 0 0 Q (F0 m 0 ls []) := by
  obtain ⟨hx, hb, -⟩ := id C
  intro H locs ls hW hl
  unfold f_X1_hasShade at h
  refine lv_aload_n hx hb dX1_hasShade_0 rfl (lv_at hl 0 rfl) ?_
  refine lv_iload_n hx hb dX1_hasShade_1 rfl (lv_at hl 1 rfl) ?_
  obtain ⟨r2, r2h, h⟩ := bd_some h
  refine x_backI hW (x_runV (As := [.int a0]) (rest := []) C hW (c_X1_hasLamp l G r2h H.size) cv_RX1_37 rv_X1 hl.1 rfl rfl ⟨by decide, by decide⟩ (Nat.le_of_ble_eq_true rfl) ⟨Nat.zero_le _, Nat.zero_le _⟩ dX1_hasShade_2) (fun H locs hW => ?_)
  refine z_if_eq (tgt := 26) hx hb dX1_hasShade_5 (by decide) (fun b5 => ?_) (fun b5 => ?_)
  · have h := it_t b5 h
    refine lv_iconst (v := 0) hx hb dX1_hasShade_26 (by decide) ?_
    obtain rfl := Option.some.inj h
    exact K _ _ _ _ dX1_hasShade_27 hW
  · have h := it_f b5 h
    refine lv_iload_n hx hb dX1_hasShade_8 rfl (lv_at hl 2 rfl) ?_
    refine lv_if_lt (tgt := 26) hx hb dX1_hasShade_9 (by decide) (fun b9 => ?_) (fun b9 => ?_)
    · have h := it_t b9 h
      refine lv_iconst (v := 0) hx hb dX1_hasShade_26 (by decide) ?_
      obtain rfl := Option.some.inj h
      exact K _ _ _ _ dX1_hasShade_27 hW
    · have h := it_f b9 h
      refine lv_iload_n hx hb dX1_hasShade_12 rfl (lv_at hl 2 rfl) ?_
      refine lv_aload_n hx hb dX1_hasShade_13 rfl (lv_at hl 0 rfl) ?_
      refine gf_RX1_9 C hW dX1_hasShade_14 ?_
      refine lv_iload_n hx hb dX1_hasShade_17 rfl (lv_at hl 1 rfl) ?_
      obtain ⟨g18, h⟩ := ck_some h
      refine x_iald C hW (k := 22) (n := 5) (by decide) (fun _ => rfl) g18 dX1_hasShade_18 ?_
      refine lv_icmp_ge (tgt := 26) hx hb dX1_hasShade_19 (by decide) (fun b19 => ?_) (fun b19 => ?_)
      · have h := it_t b19 h
        refine lv_iconst (v := 0) hx hb dX1_hasShade_26 (by decide) ?_
        obtain rfl := Option.some.inj h
        exact K _ _ _ _ dX1_hasShade_27 hW
      · have h := it_f b19 h
        refine lv_iconst (v := 1) hx hb dX1_hasShade_22 (by decide) ?_
        refine lv_goto (tgt := 27) hx hb dX1_hasShade_23 (by decide) ?_
        obtain rfl := Option.some.inj h
        exact K _ _ _ _ dX1_hasShade_27 hW
set_option maxRecDepth 100000 in
theorem c_X1_hasShade (l : Launch) (G : Geo) {S : St} {a0 : Int32} {a1 : Int32} {o : Bool} (h : f_X1_hasShade S a0 a1 = some o) : MI 37 eX G l yX1_hasShade cX1_hasShade 3 (some .boolean) 1 [.ref (adr G 1), .int a0, .int a1] S (bi o) S :=
  mZ_of (by decide +kernel) (Nat.le_of_ble_eq_true rfl) (fun p e s m below meth c A H0 Q C K => w_f_X1_hasShade C h K)
def f_X1_hasSwitch (S : St) (a0 : Int32) : Option (Bool) :=
  if a0 < 0 then (some false) else (if (S 1 3) ≤ a0 then (some false) else (some true))
set_option maxHeartbeats 4000000 in
set_option maxRecDepth 100000 in
theorem w_f_X1_hasSwitch {G : Geo} {p : Program} {l : Launch} {e : Env} {s : State} {m : MethodId} {args : Array Value} {below : List Frame} {meth : Method} {c : Code} {A : Nat → Prop} {H0 : Heap} {Q : State → Prop} (C : Cx G RX1 cX1_hasSwitch 2 p s m args c) {S : St} {a0 : Int32} {o : Bool} (h : f_X1_hasSwitch S a0 = some o) (K : KI 37 eX G A H0 cX1_hasSwitch p l e 0 s m args below meth c Q (bi o) S) : ∀ (H : Heap) (locs : List Loc) (ls : Array Slot), HX G A H0 S H locs → lv_has ls 2 [(0, .ref (adr G 1)), (1, .int a0)] → W p l e (rmK 0) s m args below meth c H locs 0 0 Q (F0 m 0 ls []) := by
  obtain ⟨hx, hb, -⟩ := id C
  intro H locs ls hW hl
  unfold f_X1_hasSwitch at h
  refine lv_iload_n hx hb dX1_hasSwitch_0 rfl (lv_at hl 1 rfl) ?_
  refine lv_if_lt (tgt := 16) hx hb dX1_hasSwitch_1 (by decide) (fun b1 => ?_) (fun b1 => ?_)
  · have h := it_t b1 h
    refine lv_iconst (v := 0) hx hb dX1_hasSwitch_16 (by decide) ?_
    obtain rfl := Option.some.inj h
    exact K _ _ _ _ dX1_hasSwitch_17 hW
  · have h := it_f b1 h
    refine lv_iload_n hx hb dX1_hasSwitch_4 rfl (lv_at hl 1 rfl) ?_
    refine lv_aload_n hx hb dX1_hasSwitch_5 rfl (lv_at hl 0 rfl) ?_
    refine gf_RX1_34 C hW dX1_hasSwitch_6 ?_
    refine lv_icmp_ge (tgt := 16) hx hb dX1_hasSwitch_9 (by decide) (fun b9 => ?_) (fun b9 => ?_)
    · have h := it_t b9 h
      refine lv_iconst (v := 0) hx hb dX1_hasSwitch_16 (by decide) ?_
      obtain rfl := Option.some.inj h
      exact K _ _ _ _ dX1_hasSwitch_17 hW
    · have h := it_f b9 h
      refine lv_iconst (v := 1) hx hb dX1_hasSwitch_12 (by decide) ?_
      refine lv_goto (tgt := 17) hx hb dX1_hasSwitch_13 (by decide) ?_
      obtain rfl := Option.some.inj h
      exact K _ _ _ _ dX1_hasSwitch_17 hW
set_option maxRecDepth 100000 in
theorem c_X1_hasSwitch (l : Launch) (G : Geo) {S : St} {a0 : Int32} {o : Bool} (h : f_X1_hasSwitch S a0 = some o) : MI 37 eX G l yX1_hasSwitch cX1_hasSwitch 2 (some .boolean) 0 [.ref (adr G 1), .int a0] S (bi o) S :=
  mZ_of (by decide +kernel) (Nat.le_of_ble_eq_true rfl) (fun p e s m below meth c A H0 Q C K => w_f_X1_hasSwitch C h K)
def f_X1_isWired (S : St) (a0 : Int32) (a1 : Int32) : Option (Bool) :=
  ck (okx a0 5) <| if ((shr32 (S 26 (ix a0)) a1) &&& ((1 : Int32))) = ((1 : Int32)) then (some true) else (some false)
set_option maxHeartbeats 4000000 in
set_option maxRecDepth 100000 in
theorem w_f_X1_isWired {G : Geo} {p : Program} {l : Launch} {e : Env} {s : State} {m : MethodId} {args : Array Value} {below : List Frame} {meth : Method} {c : Code} {A : Nat → Prop} {H0 : Heap} {Q : State → Prop} (C : Cx G RX1 cX1_isWired 3 p s m args c) {S : St} {a0 : Int32} {a1 : Int32} {o : Bool} (h : f_X1_isWired S a0 a1 = some o) (K : KI 37 eX G A H0 cX1_isWired p l e 0 s m args below meth c Q (bi o) S) : ∀ (H : Heap) (locs : List Loc) (ls : Array Slot), HX G A H0 S H locs → lv_has ls 3 [(0, .ref (adr G 1)), (1, .int a0), (2, .int a1)] → W p l e (rmK 0) s m args below meth c H locs 0 0 Q (F0 m 0 ls []) := by
  obtain ⟨hx, hb, -⟩ := id C
  intro H locs ls hW hl
  unfold f_X1_isWired at h
  refine lv_aload_n hx hb dX1_isWired_0 rfl (lv_at hl 0 rfl) ?_
  refine gf_RX1_24 C hW dX1_isWired_1 ?_
  refine lv_iload_n hx hb dX1_isWired_4 rfl (lv_at hl 1 rfl) ?_
  obtain ⟨g5, h⟩ := ck_some h
  refine x_iald C hW (k := 26) (n := 5) (by decide) (fun _ => rfl) g5 dX1_isWired_5 ?_
  refine lv_iload_n hx hb dX1_isWired_6 rfl (lv_at hl 2 rfl) ?_
  refine lv_ishr hx hb dX1_isWired_7 ?_
  refine lv_iconst (v := 1) hx hb dX1_isWired_8 (by decide) ?_
  refine lv_iand hx hb dX1_isWired_9 ?_
  refine lv_iconst (v := 1) hx hb dX1_isWired_10 (by decide) ?_
  refine lv_icmp_ne (tgt := 18) hx hb dX1_isWired_11 (by decide) (fun b11 => ?_) (fun b11 => ?_)
  · have h := it_f b11 h
    refine lv_iconst (v := 0) hx hb dX1_isWired_18 (by decide) ?_
    obtain rfl := Option.some.inj h
    exact K _ _ _ _ dX1_isWired_19 hW
  · have h := it_t b11 h
    refine lv_iconst (v := 1) hx hb dX1_isWired_14 (by decide) ?_
    refine lv_goto (tgt := 19) hx hb dX1_isWired_15 (by decide) ?_
    obtain rfl := Option.some.inj h
    exact K _ _ _ _ dX1_isWired_19 hW
set_option maxRecDepth 100000 in
theorem c_X1_isWired (l : Launch) (G : Geo) {S : St} {a0 : Int32} {a1 : Int32} {o : Bool} (h : f_X1_isWired S a0 a1 = some o) : MI 37 eX G l yX1_isWired cX1_isWired 3 (some .boolean) 0 [.ref (adr G 1), .int a0, .int a1] S (bi o) S :=
  mZ_of (by decide +kernel) (Nat.le_of_ble_eq_true rfl) (fun p e s m below meth c A H0 Q C K => w_f_X1_isWired C h K)
def f_X1_moves (S : St) (a0 : Int32) : Option (Int32) :=
  ck (okx a0 5) <| if (S 24 (ix a0)) = 1 then (ck (okx a0 5) <| some ((S 25 (ix a0)) + ((1 : Int32)))) else if (S 24 (ix a0)) = 2 then (ck (okx a0 5) <| some (((2 : Int32)) * (S 25 (ix a0)))) else (ck (okx a0 5) <| some (S 25 (ix a0)))
set_option maxHeartbeats 4000000 in
set_option maxRecDepth 100000 in
theorem w_f_X1_moves {G : Geo} {p : Program} {l : Launch} {e : Env} {s : State} {m : MethodId} {args : Array Value} {below : List Frame} {meth : Method} {c : Code} {A : Nat → Prop} {H0 : Heap} {Q : State → Prop} (C : Cx G RX1 cX1_moves 2 p s m args c) {S : St} {a0 : Int32} {o : Int32} (h : f_X1_moves S a0 = some o) (K : KI 37 eX G A H0 cX1_moves p l e 0 s m args below meth c Q o S) : ∀ (H : Heap) (locs : List Loc) (ls : Array Slot), HX G A H0 S H locs → lv_has ls 2 [(0, .ref (adr G 1)), (1, .int a0)] → W p l e (rmK 0) s m args below meth c H locs 0 0 Q (F0 m 0 ls []) := by
  obtain ⟨hx, hb, -⟩ := id C
  intro H locs ls hW hl
  unfold f_X1_moves at h
  refine lv_aload_n hx hb dX1_moves_0 rfl (lv_at hl 0 rfl) ?_
  refine gf_RX1_18 C hW dX1_moves_1 ?_
  refine lv_iload_n hx hb dX1_moves_4 rfl (lv_at hl 1 rfl) ?_
  obtain ⟨g5, h⟩ := ck_some h
  refine x_iald C hW (k := 24) (n := 5) (by decide) (fun _ => rfl) g5 dX1_moves_5 ?_
  by_cases v6_0 : (S 24 (ix a0)) = 1
  · have h := it_t v6_0 h
    refine lv_lookup (off := 35) (tgt := 41) hx hb dX1_moves_6 (by decide) (by rw [v6_0]; rfl) (by decide) ?_
    refine lv_aload_n hx hb dX1_moves_41 rfl (lv_at hl 0 rfl) ?_
    refine gf_RX1_21 C hW dX1_moves_42 ?_
    refine lv_iload_n hx hb dX1_moves_45 rfl (lv_at hl 1 rfl) ?_
    obtain ⟨g46, h⟩ := ck_some h
    refine x_iald C hW (k := 25) (n := 5) (by decide) (fun _ => rfl) g46 dX1_moves_46 ?_
    refine lv_iconst (v := 1) hx hb dX1_moves_47 (by decide) ?_
    refine lv_iadd hx hb dX1_moves_48 ?_
    obtain rfl := Option.some.inj h
    exact K _ _ _ _ dX1_moves_49 hW
  · have h := it_f v6_0 h
    by_cases v6_1 : (S 24 (ix a0)) = 2
    · have h := it_t v6_1 h
      refine lv_lookup (off := 26) (tgt := 32) hx hb dX1_moves_6 (by decide) (by rw [v6_1]; rfl) (by decide) ?_
      refine lv_iconst (v := 2) hx hb dX1_moves_32 (by decide) ?_
      refine lv_aload_n hx hb dX1_moves_33 rfl (lv_at hl 0 rfl) ?_
      refine gf_RX1_21 C hW dX1_moves_34 ?_
      refine lv_iload_n hx hb dX1_moves_37 rfl (lv_at hl 1 rfl) ?_
      obtain ⟨g38, h⟩ := ck_some h
      refine x_iald C hW (k := 25) (n := 5) (by decide) (fun _ => rfl) g38 dX1_moves_38 ?_
      refine lv_imul hx hb dX1_moves_39 ?_
      obtain rfl := Option.some.inj h
      exact K _ _ _ _ dX1_moves_40 hW
    · have h := it_f v6_1 h
      have w6_0 := ne_i 1 1 (by decide) v6_0
      have w6_1 := ne_i 2 2 (by decide) v6_1
      refine lv_lookup (off := 44) (tgt := 50) hx hb dX1_moves_6 (by decide) (by simp [Op.lookupswitch.offset, w6_0, Ne.symm w6_0, w6_1, Ne.symm w6_1]) (by decide) ?_
      refine lv_aload_n hx hb dX1_moves_50 rfl (lv_at hl 0 rfl) ?_
      refine gf_RX1_21 C hW dX1_moves_51 ?_
      refine lv_iload_n hx hb dX1_moves_54 rfl (lv_at hl 1 rfl) ?_
      obtain ⟨g55, h⟩ := ck_some h
      refine x_iald C hW (k := 25) (n := 5) (by decide) (fun _ => rfl) g55 dX1_moves_55 ?_
      obtain rfl := Option.some.inj h
      exact K _ _ _ _ dX1_moves_56 hW
set_option maxRecDepth 100000 in
theorem c_X1_moves (l : Launch) (G : Geo) {S : St} {a0 : Int32} {o : Int32} (h : f_X1_moves S a0 = some o) : MI 37 eX G l yX1_moves cX1_moves 2 (some .int) 0 [.ref (adr G 1), .int a0] S o S :=
  mI_of (by decide +kernel) (Nat.le_of_ble_eq_true rfl) (fun p e s m below meth c A H0 Q C K => w_f_X1_moves C h K)
def f_X1_stepOf (S : St) (a0 : Int32) (a1 : Int32) : Option (Int32) :=
  bd (f_X1_isWired S a0 a1) fun r3 => if r3 = false then (some ((0 : Int32))) else (bd (f_X1_moves S a0) fun r11 => ck (okx a1 5) <| bd (f_X6_wrapped r11 (S 22 (ix a1))) fun r20 => some r20)
set_option maxHeartbeats 4000000 in
set_option maxRecDepth 100000 in
theorem w_f_X1_stepOf {G : Geo} {p : Program} {l : Launch} {e : Env} {s : State} {m : MethodId} {args : Array Value} {below : List Frame} {meth : Method} {c : Code} {A : Nat → Prop} {H0 : Heap} {Q : State → Prop} (C : Cx G RX1 cX1_stepOf 3 p s m args c) {S : St} {a0 : Int32} {a1 : Int32} {o : Int32} (h : f_X1_stepOf S a0 a1 = some o) (K : KI 37 eX G A H0 cX1_stepOf p l e 2 s m args below meth c Q o S) : ∀ (H : Heap) (locs : List Loc) (ls : Array Slot), HX G A H0 S H locs → lv_has ls 3 [(0, .ref (adr G 1)), (1, .int a0), (2, .int a1)] → W p l e (rmK 2) s m args below meth c H locs 0 0 Q (F0 m 0 ls []) := by
  obtain ⟨hx, hb, -⟩ := id C
  intro H locs ls hW hl
  unfold f_X1_stepOf at h
  refine lv_aload_n hx hb dX1_stepOf_0 rfl (lv_at hl 0 rfl) ?_
  refine lv_iload_n hx hb dX1_stepOf_1 rfl (lv_at hl 1 rfl) ?_
  refine lv_iload_n hx hb dX1_stepOf_2 rfl (lv_at hl 2 rfl) ?_
  obtain ⟨r3, r3h, h⟩ := bd_some h
  refine x_backI hW (x_runV (As := [.int a0, .int a1]) (rest := []) C hW (c_X1_isWired l G r3h H.size) cv_RX1_41 rv_X1 hl.1 rfl rfl ⟨by decide, by decide⟩ (Nat.le_of_ble_eq_true rfl) ⟨Nat.zero_le _, Nat.zero_le _⟩ dX1_stepOf_3) (fun H locs hW => ?_)
  refine z_if_eq (tgt := 26) hx hb dX1_stepOf_6 (by decide) (fun b6 => ?_) (fun b6 => ?_)
  · have h := it_t b6 h
    refine lv_iconst (v := 0) hx hb dX1_stepOf_26 (by decide) ?_
    obtain rfl := Option.some.inj h
    exact K _ _ _ _ dX1_stepOf_27 hW
  · have h := it_f b6 h
    refine lv_aload_n hx hb dX1_stepOf_9 rfl (lv_at hl 0 rfl) ?_
    refine lv_iload_n hx hb dX1_stepOf_10 rfl (lv_at hl 1 rfl) ?_
    obtain ⟨r11, r11h, h⟩ := bd_some h
    refine x_backI hW (x_runV (As := [.int a0]) (rest := []) C hW (c_X1_moves l G r11h H.size) cv_RX1_45 rv_X1 hl.1 rfl rfl ⟨by decide, by decide⟩ (Nat.le_of_ble_eq_true rfl) ⟨Nat.zero_le _, Nat.zero_le _⟩ dX1_stepOf_11) (fun H locs hW => ?_)
    refine lv_aload_n hx hb dX1_stepOf_14 rfl (lv_at hl 0 rfl) ?_
    refine gf_RX1_9 C hW dX1_stepOf_15 ?_
    refine lv_iload_n hx hb dX1_stepOf_18 rfl (lv_at hl 2 rfl) ?_
    obtain ⟨g19, h⟩ := ck_some h
    refine x_iald C hW (k := 22) (n := 5) (by decide) (fun _ => rfl) g19 dX1_stepOf_19 ?_
    obtain ⟨r20, r20h, h⟩ := bd_some h
    refine x_backI hW (x_runSN (n := 2) (As := [.int r11, .int (S 22 (ix a1))]) (rest := []) C hW (c_X6_wrapped l G (S := S) r20h H.size) C.2.2.2.2.2.2.1 uST_X6_wrapped uINI_RX6 uCO_X6_wrapped (by decide +kernel) hl.1 rfl rfl ⟨by decide, by decide⟩ (Nat.le_of_ble_eq_true rfl) ⟨Nat.zero_le _, Nat.zero_le _⟩ dX1_stepOf_20) (fun H locs hW => ?_)
    refine lv_goto (tgt := 27) hx hb dX1_stepOf_23 (by decide) ?_
    obtain rfl := Option.some.inj h
    exact K _ _ _ _ dX1_stepOf_27 hW
set_option maxRecDepth 100000 in
theorem c_X1_stepOf (l : Launch) (G : Geo) {S : St} {a0 : Int32} {a1 : Int32} {o : Int32} (h : f_X1_stepOf S a0 a1 = some o) : MI 37 eX G l yX1_stepOf cX1_stepOf 3 (some .int) 2 [.ref (adr G 1), .int a0, .int a1] S o S :=
  mI_of (by decide +kernel) (Nat.le_of_ble_eq_true rfl) (fun p e s m below meth c A H0 Q C K => w_f_X1_stepOf C h K)
def i_X1_turnOn_3 (S : St) (x1 : Nat) (x2 : Int32) (x3 : Int32) (x4 : Int32) : Option ((St × Int32) ⊕ (St × Int32)) :=
  if (S 1 0) ≤ x4 then (some (.inr (S, x4))) else (ck (okx x4 (lenX x1)) <| bd (f_X1_stepOf S x2 x4) fun r24 => ck (okx x4 5) <| bd (f_X6_wrapped ((S x1 (ix x4)) + (x3 * r24)) (S 22 (ix x4))) fun r36 => ck (okx x4 (lenX x1)) <| some (.inl (up S x1 (ix x4) r36, x4 + (1 : Int32))))
set_option maxHeartbeats 4000000 in
set_option maxRecDepth 100000 in
theorem w_i_X1_turnOn_3 {G : Geo} {p : Program} {l : Launch} {e : Env} {s : State} {m : MethodId} {args : Array Value} {below : List Frame} {meth : Method} {c : Code} {A : Nat → Prop} {H0 : Heap} {Q : State → Prop} (C : Cx G RX1 cX1_turnOn 5 p s m args c) {S : St} {x1 : Nat} {x2 : Int32} {x3 : Int32} {x4 : Int32} {o : (St × Int32) ⊕ (St × Int32)} (hx1 : arX x1) (h : i_X1_turnOn_3 S x1 x2 x3 x4 = some o) (Kn : ∀ q, o = .inl q → ∀ (H : Heap) (locs : List Loc) (ls : Array Slot), HX G A H0 q.1 H locs → lv_has ls 5 [(0, .ref (adr G 1)), (1, .ref (adr G x1)), (2, .int x2), (3, .int x3), (4, .int (q.2))] → W p l e (rmK 3) s m args below meth c H locs 0 0 Q (F0 m 3 ls [])) (Kt : ∀ q, o = .inr q → ∀ (H : Heap) (locs : List Loc) (ls : Array Slot), HX G A H0 q.1 H locs → lv_has ls 5 [] → W p l e (rmK 3) s m args below meth c H locs 0 0 Q (F0 m 46 ls [])) : ∀ (H : Heap) (locs : List Loc) (ls : Array Slot), HX G A H0 S H locs → lv_has ls 5 [(0, .ref (adr G 1)), (1, .ref (adr G x1)), (2, .int x2), (3, .int x3), (4, .int x4)] → W p l e (rmK 3) s m args below meth c H locs 0 0 Q (F0 m 3 ls []) := by
  obtain ⟨hx, hb, -⟩ := id C
  intro H locs ls hW hl
  unfold i_X1_turnOn_3 at h
  refine lv_iload hx hb dX1_turnOn_3 (lv_at hl 4 rfl) ?_
  refine lv_aload_n hx hb dX1_turnOn_5 rfl (lv_at hl 0 rfl) ?_
  refine gf_RX1_30 C hW dX1_turnOn_6 ?_
  refine lv_icmp_ge (tgt := 46) hx hb dX1_turnOn_9 (by decide) (fun b9 => ?_) (fun b9 => ?_)
  · have h := it_t b9 h
    obtain rfl := Option.some.inj h
    exact Kt _ rfl _ _ _ hW (lv_sub hl [] rfl)
  · have h := it_f b9 h
    refine lv_aload_n hx hb dX1_turnOn_12 rfl (lv_at hl 1 rfl) ?_
    refine lv_iload hx hb dX1_turnOn_13 (lv_at hl 4 rfl) ?_
    refine lv_aload_n hx hb dX1_turnOn_15 rfl (lv_at hl 1 rfl) ?_
    refine lv_iload hx hb dX1_turnOn_16 (lv_at hl 4 rfl) ?_
    obtain ⟨g18, h⟩ := ck_some h
    refine x_iald C hW (k := x1) (n := (lenX x1)) hx1.2 (eX_ar hx1) g18 dX1_turnOn_18 ?_
    refine lv_iload_n hx hb dX1_turnOn_19 rfl (lv_at hl 3 rfl) ?_
    refine lv_aload_n hx hb dX1_turnOn_20 rfl (lv_at hl 0 rfl) ?_
    refine lv_iload_n hx hb dX1_turnOn_21 rfl (lv_at hl 2 rfl) ?_
    refine lv_iload hx hb dX1_turnOn_22 (lv_at hl 4 rfl) ?_
    obtain ⟨r24, r24h, h⟩ := bd_some h
    refine x_backI hW (x_runV (As := [.int x2, .int x4]) (rest := [.int x3, .int (S x1 (ix x4)), .int x4, .ref (adr G x1)]) C hW (c_X1_stepOf l G r24h H.size) cv_RX1_53 rv_X1 hl.1 rfl rfl ⟨by decide, by decide⟩ (Nat.le_of_ble_eq_true rfl) ⟨Nat.zero_le _, Nat.zero_le _⟩ dX1_turnOn_24) (fun H locs hW => ?_)
    refine lv_imul hx hb dX1_turnOn_27 ?_
    refine lv_iadd hx hb dX1_turnOn_28 ?_
    refine lv_aload_n hx hb dX1_turnOn_29 rfl (lv_at hl 0 rfl) ?_
    refine gf_RX1_9 C hW dX1_turnOn_30 ?_
    refine lv_iload hx hb dX1_turnOn_33 (lv_at hl 4 rfl) ?_
    obtain ⟨g35, h⟩ := ck_some h
    refine x_iald C hW (k := 22) (n := 5) (by decide) (fun _ => rfl) g35 dX1_turnOn_35 ?_
    obtain ⟨r36, r36h, h⟩ := bd_some h
    refine x_backI hW (x_runSN (n := 2) (As := [.int ((S x1 (ix x4)) + (x3 * r24)), .int (S 22 (ix x4))]) (rest := [.int x4, .ref (adr G x1)]) C hW (c_X6_wrapped l G (S := S) r36h H.size) C.2.2.2.2.2.2.1 uST_X6_wrapped uINI_RX6 uCO_X6_wrapped (by decide +kernel) hl.1 rfl rfl ⟨by decide, by decide⟩ (Nat.le_of_ble_eq_true rfl) ⟨Nat.zero_le _, Nat.zero_le _⟩ dX1_turnOn_36) (fun H locs hW => ?_)
    obtain ⟨g39, h⟩ := ck_some h
    refine x_iast C hW (k := x1) (n := (lenX x1)) hx1.2 (eX_ar hx1) g39 dX1_turnOn_39 (fun H locs hW => ?_)
    refine lv_iinc (v := (x4 + (1 : Int32))) (lv' := [(4, .int (x4 + (1 : Int32))), (0, .ref (adr G 1)), (1, .ref (adr G x1)), (2, .int x2), (3, .int x3)]) hx hb dX1_turnOn_40 hl (k := 4) rfl rfl (by decide) rfl (fun ls hl => ?_)
    refine lv_goto (tgt := 3) hx hb dX1_turnOn_43 (by decide) ?_
    obtain rfl := Option.some.inj h
    exact Kn _ rfl _ _ _ hW (lv_sub hl [1, 2, 3, 4, 0] rfl)
set_option maxHeartbeats 4000000 in
set_option maxRecDepth 100000 in
theorem l_i_X1_turnOn_3 {G : Geo} {p : Program} {l : Launch} {e : Env} {s : State} {m : MethodId} {args : Array Value} {below : List Frame} {meth : Method} {c : Code} {A : Nat → Prop} {H0 : Heap} {Q : State → Prop} (C : Cx G RX1 cX1_turnOn 5 p s m args c) {x1 : Nat} {x2 : Int32} {x3 : Int32} {n : Nat} {q0 : St × Int32} {u : St × Int32} (hx1 : arX x1) (hq : iter (fun q : St × Int32 => i_X1_turnOn_3 q.1 x1 x2 x3 q.2) n q0 = some u) (Kt : (fun q : St × Int32 => ∀ (H : Heap) (locs : List Loc) (ls : Array Slot), HX G A H0 q.1 H locs → lv_has ls 5 [] → W p l e (rmK 3) s m args below meth c H locs 0 0 Q (F0 m 46 ls [])) u) : (fun q : St × Int32 => ∀ (H : Heap) (locs : List Loc) (ls : Array Slot), HX G A H0 q.1 H locs → lv_has ls 5 [(0, .ref (adr G 1)), (1, .ref (adr G x1)), (2, .int x2), (3, .int x3), (4, .int (q.2))] → W p l e (rmK 3) s m args below meth c H locs 0 0 Q (F0 m 3 ls [])) q0 :=
  iter_W (P := fun q : St × Int32 => ∀ (H : Heap) (locs : List Loc) (ls : Array Slot), HX G A H0 q.1 H locs → lv_has ls 5 [(0, .ref (adr G 1)), (1, .ref (adr G x1)), (2, .int x2), (3, .int x3), (4, .int (q.2))] → W p l e (rmK 3) s m args below meth c H locs 0 0 Q (F0 m 3 ls [])) (K := fun q : St × Int32 => ∀ (H : Heap) (locs : List Loc) (ls : Array Slot), HX G A H0 q.1 H locs → lv_has ls 5 [] → W p l e (rmK 3) s m args below meth c H locs 0 0 Q (F0 m 46 ls [])) (fun q o hit Kn Kt => w_i_X1_turnOn_3 C hx1 hit Kn Kt) n q0 u hq Kt
def f_X1_turnOn (S : St) (a0 : Nat) (a1 : Int32) (a2 : Int32) : Option (St) :=
  ck (arX a0) <| bd (iter (fun q => i_X1_turnOn_3 q.1 a0 a1 a2 q.2) BIG (S, (0 : Int32))) fun q3 => some q3.1
set_option maxHeartbeats 4000000 in
set_option maxRecDepth 100000 in
theorem w_f_X1_turnOn {G : Geo} {p : Program} {l : Launch} {e : Env} {s : State} {m : MethodId} {args : Array Value} {below : List Frame} {meth : Method} {c : Code} {A : Nat → Prop} {H0 : Heap} {Q : State → Prop} (C : Cx G RX1 cX1_turnOn 5 p s m args c) {S : St} {a0 : Nat} {a1 : Int32} {a2 : Int32} {o : St} (h : f_X1_turnOn S a0 a1 a2 = some o) (K : KV 37 eX G A H0 cX1_turnOn p l e 3 s m args below meth c Q o) : ∀ (H : Heap) (locs : List Loc) (ls : Array Slot), HX G A H0 S H locs → lv_has ls 5 [(0, .ref (adr G 1)), (1, .ref (adr G a0)), (2, .int a1), (3, .int a2)] → W p l e (rmK 3) s m args below meth c H locs 0 0 Q (F0 m 0 ls []) := by
  obtain ⟨hx, hb, -⟩ := id C
  intro H locs ls hW hl
  unfold f_X1_turnOn at h
  obtain ⟨ha0, h⟩ := ck_some h
  refine lv_iconst (v := 0) hx hb dX1_turnOn_0 (by decide) ?_
  refine lv_istore (lv' := [(4, .int ((0 : Int32))), (0, .ref (adr G 1)), (1, .ref (adr G a0)), (2, .int a1), (3, .int a2)]) hx hb dX1_turnOn_1 hl (by decide) rfl (fun ls hl => ?_)
  obtain ⟨q3, q3h, h⟩ := bd_some h
  refine l_i_X1_turnOn_3 C ha0 q3h ?_ _ _ _ hW (lv_sub hl [1, 2, 3, 4, 0] rfl)
  intro H locs ls hW hl
  obtain rfl := Option.some.inj h
  exact K _ _ _ _ dX1_turnOn_46 hW
set_option maxRecDepth 100000 in
theorem c_X1_turnOn (l : Launch) (G : Geo) {S : St} {a0 : Nat} {a1 : Int32} {a2 : Int32} {o : St} (h : f_X1_turnOn S a0 a1 a2 = some o) : MV 37 eX G l yX1_turnOn cX1_turnOn 5 none 3 [.ref (adr G 1), .ref (adr G a0), .int a1, .int a2] S o :=
  mV_of (by decide +kernel) (Nat.le_of_ble_eq_true rfl) (fun p e s m below meth c A H0 Q C K => w_f_X1_turnOn C h K)
def f_X0_happens (S : St) (a1 : Int32) (a2 : Int32) : Option (Bool × St) :=
  if a2 < ((10 : Int32)) then (bd (f_X1_hasSwitch S a1) fun r36 => if r36 = true then (bd (f_X1_turnOn S 36 a1 a2) fun r51 => some (true, up r51 5 2 ((r51 5 2) + a2))) else (some (false, S))) else (bd (f_X1_hasShade S (a2 - ((10 : Int32))) a1) fun r16 => if r16 = true then (ck (okx (a2 - ((10 : Int32))) 5) <| some (true, up S 36 (ix (a2 - ((10 : Int32)))) a1)) else (some (false, S)))
set_option maxHeartbeats 4000000 in
set_option maxRecDepth 100000 in
theorem w_f_X0_happens {G : Geo} {p : Program} {l : Launch} {e : Env} {s : State} {m : MethodId} {args : Array Value} {below : List Frame} {meth : Method} {c : Code} {A : Nat → Prop} {H0 : Heap} {Q : State → Prop} (C : Cx G RX0 cX0_happens 5 p s m args c) {S : St} {a1 : Int32} {a2 : Int32} {o : Bool × St} (h : f_X0_happens S a1 a2 = some o) (K : KI 37 eX G A H0 cX0_happens p l e 4 s m args below meth c Q (bi ((o).1)) ((o).2)) : ∀ (H : Heap) (locs : List Loc) (ls : Array Slot), HX G A H0 S H locs → lv_has ls 5 [(0, .ref (adr G 5)), (1, .ref (adr G 1)), (2, .int a1), (3, .int a2)] → W p l e (rmK 4) s m args below meth c H locs 0 0 Q (F0 m 0 ls []) := by
  obtain ⟨hx, hb, -⟩ := id C
  intro H locs ls hW hl
  unfold f_X0_happens at h
  refine lv_iload_n hx hb dX0_happens_0 rfl (lv_at hl 3 rfl) ?_
  refine lv_bipush (v := 10) hx hb dX0_happens_1 (by decide) ?_
  refine lv_icmp_lt (tgt := 34) hx hb dX0_happens_3 (by decide) (fun b3 => ?_) (fun b3 => ?_)
  · have h := it_t b3 h
    refine lv_aload_n hx hb dX0_happens_34 rfl (lv_at hl 1 rfl) ?_
    refine lv_iload_n hx hb dX0_happens_35 rfl (lv_at hl 2 rfl) ?_
    obtain ⟨r36, r36h, h⟩ := bd_some h
    refine x_backI hW (x_runV (As := [.int a1]) (rest := []) C hW (c_X1_hasSwitch l G r36h H.size) cv_RX0_57 rv_X1 hl.1 rfl rfl ⟨by decide, by decide⟩ (Nat.le_of_ble_eq_true rfl) ⟨Nat.zero_le _, Nat.zero_le _⟩ dX0_happens_36) (fun H locs hW => ?_)
    refine z_if_ne (tgt := 44) hx hb dX0_happens_39 (by decide) (fun b39 => ?_) (fun b39 => ?_)
    · have h := it_t b39 h
      refine lv_aload_n hx hb dX0_happens_44 rfl (lv_at hl 1 rfl) ?_
      refine lv_aload_n hx hb dX0_happens_45 rfl (lv_at hl 0 rfl) ?_
      refine gf_RX0_9 C hW dX0_happens_46 ?_
      refine lv_iload_n hx hb dX0_happens_49 rfl (lv_at hl 2 rfl) ?_
      refine lv_iload_n hx hb dX0_happens_50 rfl (lv_at hl 3 rfl) ?_
      obtain ⟨r51, r51h, h⟩ := bd_some h
      refine x_backV hW (x_runV (As := [.ref (adr G 36), .int a1, .int a2]) (rest := []) C hW (c_X1_turnOn l G r51h H.size) cv_RX0_61 rv_X1 hl.1 rfl rfl ⟨by decide, by decide⟩ (Nat.le_of_ble_eq_true rfl) ⟨Nat.zero_le _, Nat.zero_le _⟩ dX0_happens_51) (fun H locs hW => ?_)
      refine lv_aload_n hx hb dX0_happens_54 rfl (lv_at hl 0 rfl) ?_
      refine lv_dup hx hb dX0_happens_55 rfl ?_
      refine gf_RX0_30 C hW dX0_happens_56 ?_
      refine lv_iload_n hx hb dX0_happens_59 rfl (lv_at hl 3 rfl) ?_
      refine lv_iadd hx hb dX0_happens_60 ?_
      refine pf_RX0_30 C hW dX0_happens_61 (fun H locs hW => ?_)
      refine lv_iconst (v := 1) hx hb dX0_happens_64 (by decide) ?_
      obtain rfl := Option.some.inj h
      exact K _ _ _ _ dX0_happens_65 hW
    · have h := it_f b39 h
      refine lv_iconst (v := 0) hx hb dX0_happens_42 (by decide) ?_
      obtain rfl := Option.some.inj h
      exact K _ _ _ _ dX0_happens_43 hW
  · have h := it_f b3 h
    refine lv_iload_n hx hb dX0_happens_6 rfl (lv_at hl 3 rfl) ?_
    refine lv_bipush (v := 10) hx hb dX0_happens_7 (by decide) ?_
    refine lv_isub hx hb dX0_happens_9 ?_
    refine lv_istore (lv' := [(4, .int (a2 - ((10 : Int32)))), (0, .ref (adr G 5)), (1, .ref (adr G 1)), (2, .int a1), (3, .int a2)]) hx hb dX0_happens_10 hl (by decide) rfl (fun ls hl => ?_)
    refine lv_aload_n hx hb dX0_happens_12 rfl (lv_at hl 2 rfl) ?_
    refine lv_iload hx hb dX0_happens_13 (lv_at hl 0 rfl) ?_
    refine lv_iload_n hx hb dX0_happens_15 rfl (lv_at hl 3 rfl) ?_
    obtain ⟨r16, r16h, h⟩ := bd_some h
    refine x_backI hW (x_runV (As := [.int (a2 - ((10 : Int32))), .int a1]) (rest := []) C hW (c_X1_hasShade l G r16h H.size) cv_RX0_53 rv_X1 hl.1 rfl rfl ⟨by decide, by decide⟩ (Nat.le_of_ble_eq_true rfl) ⟨Nat.zero_le _, Nat.zero_le _⟩ dX0_happens_16) (fun H locs hW => ?_)
    refine z_if_ne (tgt := 24) hx hb dX0_happens_19 (by decide) (fun b19 => ?_) (fun b19 => ?_)
    · have h := it_t b19 h
      refine lv_aload_n hx hb dX0_happens_24 rfl (lv_at hl 1 rfl) ?_
      refine gf_RX0_9 C hW dX0_happens_25 ?_
      refine lv_iload hx hb dX0_happens_28 (lv_at hl 0 rfl) ?_
      refine lv_iload_n hx hb dX0_happens_30 rfl (lv_at hl 3 rfl) ?_
      obtain ⟨g31, h⟩ := ck_some h
      refine x_iast C hW (k := 36) (n := 5) (by decide) (fun _ => rfl) g31 dX0_happens_31 (fun H locs hW => ?_)
      refine lv_iconst (v := 1) hx hb dX0_happens_32 (by decide) ?_
      obtain rfl := Option.some.inj h
      exact K _ _ _ _ dX0_happens_33 hW
    · have h := it_f b19 h
      refine lv_iconst (v := 0) hx hb dX0_happens_22 (by decide) ?_
      obtain rfl := Option.some.inj h
      exact K _ _ _ _ dX0_happens_23 hW
set_option maxRecDepth 100000 in
theorem c_X0_happens (l : Launch) (G : Geo) {S : St} {a1 : Int32} {a2 : Int32} {o : Bool × St} (h : f_X0_happens S a1 a2 = some o) : MI 37 eX G l yX0_happens cX0_happens 5 (some .boolean) 4 [.ref (adr G 5), .ref (adr G 1), .int a1, .int a2] S (bi o.1) o.2 :=
  mZ_of (by decide +kernel) (Nat.le_of_ble_eq_true rfl) (fun p e s m below meth c A H0 Q C K => w_f_X0_happens C h K)
def i_X1_darkIn_4 (S : St) (x1 : Nat) (x2 : Int32) (x3 : Int32) : Option ((Int32 × Int32) ⊕ (Int32 × Int32)) :=
  if (S 1 0) ≤ x3 then (some (.inr (x2, x3))) else (ck (okx x3 (lenX x1)) <| if (S x1 (ix x3)) = 0 then (some (.inl (x2 + (1 : Int32), x3 + (1 : Int32)))) else (some (.inl (x2, x3 + (1 : Int32)))))
set_option maxHeartbeats 4000000 in
set_option maxRecDepth 100000 in
theorem w_i_X1_darkIn_4 {G : Geo} {p : Program} {l : Launch} {e : Env} {s : State} {m : MethodId} {args : Array Value} {below : List Frame} {meth : Method} {c : Code} {A : Nat → Prop} {H0 : Heap} {Q : State → Prop} (C : Cx G RX1 cX1_darkIn 4 p s m args c) {S : St} {x1 : Nat} {x2 : Int32} {x3 : Int32} {o : (Int32 × Int32) ⊕ (Int32 × Int32)} (hx1 : arX x1) (h : i_X1_darkIn_4 S x1 x2 x3 = some o) (Kn : ∀ q, o = .inl q → ∀ (H : Heap) (locs : List Loc) (ls : Array Slot), HX G A H0 S H locs → lv_has ls 4 [(0, .ref (adr G 1)), (1, .ref (adr G x1)), (2, .int (q.1)), (3, .int (q.2))] → W p l e (rmK 0) s m args below meth c H locs 0 0 Q (F0 m 4 ls [])) (Kt : ∀ q, o = .inr q → ∀ (H : Heap) (locs : List Loc) (ls : Array Slot), HX G A H0 S H locs → lv_has ls 4 [(2, .int (q.1))] → W p l e (rmK 0) s m args below meth c H locs 0 0 Q (F0 m 27 ls [])) : ∀ (H : Heap) (locs : List Loc) (ls : Array Slot), HX G A H0 S H locs → lv_has ls 4 [(0, .ref (adr G 1)), (1, .ref (adr G x1)), (2, .int x2), (3, .int x3)] → W p l e (rmK 0) s m args below meth c H locs 0 0 Q (F0 m 4 ls []) := by
  obtain ⟨hx, hb, -⟩ := id C
  intro H locs ls hW hl
  unfold i_X1_darkIn_4 at h
  refine lv_iload_n hx hb dX1_darkIn_4 rfl (lv_at hl 3 rfl) ?_
  refine lv_aload_n hx hb dX1_darkIn_5 rfl (lv_at hl 0 rfl) ?_
  refine gf_RX1_30 C hW dX1_darkIn_6 ?_
  refine lv_icmp_ge (tgt := 27) hx hb dX1_darkIn_9 (by decide) (fun b9 => ?_) (fun b9 => ?_)
  · have h := it_t b9 h
    obtain rfl := Option.some.inj h
    exact Kt _ rfl _ _ _ hW (lv_sub hl [2] rfl)
  · have h := it_f b9 h
    refine lv_aload_n hx hb dX1_darkIn_12 rfl (lv_at hl 1 rfl) ?_
    refine lv_iload_n hx hb dX1_darkIn_13 rfl (lv_at hl 3 rfl) ?_
    obtain ⟨g14, h⟩ := ck_some h
    refine x_iald C hW (k := x1) (n := (lenX x1)) hx1.2 (eX_ar hx1) g14 dX1_darkIn_14 ?_
    refine lv_if_ne (tgt := 21) hx hb dX1_darkIn_15 (by decide) (fun b15 => ?_) (fun b15 => ?_)
    · have h := it_f b15 h
      refine lv_iinc (v := (x3 + (1 : Int32))) (lv' := [(3, .int (x3 + (1 : Int32))), (0, .ref (adr G 1)), (1, .ref (adr G x1)), (2, .int x2)]) hx hb dX1_darkIn_21 hl (k := 3) rfl rfl (by decide) rfl (fun ls hl => ?_)
      refine lv_goto (tgt := 4) hx hb dX1_darkIn_24 (by decide) ?_
      obtain rfl := Option.some.inj h
      exact Kn _ rfl _ _ _ hW (lv_sub hl [1, 2, 3, 0] rfl)
    · have h := it_t b15 h
      refine lv_iinc (v := (x2 + (1 : Int32))) (lv' := [(2, .int (x2 + (1 : Int32))), (0, .ref (adr G 1)), (1, .ref (adr G x1)), (3, .int x3)]) hx hb dX1_darkIn_18 hl (k := 2) rfl rfl (by decide) rfl (fun ls hl => ?_)
      refine lv_iinc (v := (x3 + (1 : Int32))) (lv' := [(3, .int (x3 + (1 : Int32))), (2, .int (x2 + (1 : Int32))), (0, .ref (adr G 1)), (1, .ref (adr G x1))]) hx hb dX1_darkIn_21 hl (k := 3) rfl rfl (by decide) rfl (fun ls hl => ?_)
      refine lv_goto (tgt := 4) hx hb dX1_darkIn_24 (by decide) ?_
      obtain rfl := Option.some.inj h
      exact Kn _ rfl _ _ _ hW (lv_sub hl [2, 3, 1, 0] rfl)
set_option maxHeartbeats 4000000 in
set_option maxRecDepth 100000 in
theorem l_i_X1_darkIn_4 {G : Geo} {p : Program} {l : Launch} {e : Env} {s : State} {m : MethodId} {args : Array Value} {below : List Frame} {meth : Method} {c : Code} {A : Nat → Prop} {H0 : Heap} {Q : State → Prop} (C : Cx G RX1 cX1_darkIn 4 p s m args c) {S : St} {x1 : Nat} {n : Nat} {q0 : Int32 × Int32} {u : Int32 × Int32} (hx1 : arX x1) (hq : iter (fun q : Int32 × Int32 => i_X1_darkIn_4 S x1 q.1 q.2) n q0 = some u) (Kt : (fun q : Int32 × Int32 => ∀ (H : Heap) (locs : List Loc) (ls : Array Slot), HX G A H0 S H locs → lv_has ls 4 [(2, .int (q.1))] → W p l e (rmK 0) s m args below meth c H locs 0 0 Q (F0 m 27 ls [])) u) : (fun q : Int32 × Int32 => ∀ (H : Heap) (locs : List Loc) (ls : Array Slot), HX G A H0 S H locs → lv_has ls 4 [(0, .ref (adr G 1)), (1, .ref (adr G x1)), (2, .int (q.1)), (3, .int (q.2))] → W p l e (rmK 0) s m args below meth c H locs 0 0 Q (F0 m 4 ls [])) q0 :=
  iter_W (P := fun q : Int32 × Int32 => ∀ (H : Heap) (locs : List Loc) (ls : Array Slot), HX G A H0 S H locs → lv_has ls 4 [(0, .ref (adr G 1)), (1, .ref (adr G x1)), (2, .int (q.1)), (3, .int (q.2))] → W p l e (rmK 0) s m args below meth c H locs 0 0 Q (F0 m 4 ls [])) (K := fun q : Int32 × Int32 => ∀ (H : Heap) (locs : List Loc) (ls : Array Slot), HX G A H0 S H locs → lv_has ls 4 [(2, .int (q.1))] → W p l e (rmK 0) s m args below meth c H locs 0 0 Q (F0 m 27 ls [])) (fun q o hit Kn Kt => w_i_X1_darkIn_4 C hx1 hit Kn Kt) n q0 u hq Kt
def f_X1_darkIn (S : St) (a0 : Nat) : Option (Int32) :=
  ck (arX a0) <| bd (iter (fun q => i_X1_darkIn_4 S a0 q.1 q.2) BIG ((0 : Int32), (0 : Int32))) fun q4 => some q4.1
set_option maxHeartbeats 4000000 in
set_option maxRecDepth 100000 in
theorem w_f_X1_darkIn {G : Geo} {p : Program} {l : Launch} {e : Env} {s : State} {m : MethodId} {args : Array Value} {below : List Frame} {meth : Method} {c : Code} {A : Nat → Prop} {H0 : Heap} {Q : State → Prop} (C : Cx G RX1 cX1_darkIn 4 p s m args c) {S : St} {a0 : Nat} {o : Int32} (h : f_X1_darkIn S a0 = some o) (K : KI 37 eX G A H0 cX1_darkIn p l e 0 s m args below meth c Q o S) : ∀ (H : Heap) (locs : List Loc) (ls : Array Slot), HX G A H0 S H locs → lv_has ls 4 [(0, .ref (adr G 1)), (1, .ref (adr G a0))] → W p l e (rmK 0) s m args below meth c H locs 0 0 Q (F0 m 0 ls []) := by
  obtain ⟨hx, hb, -⟩ := id C
  intro H locs ls hW hl
  unfold f_X1_darkIn at h
  obtain ⟨ha0, h⟩ := ck_some h
  refine lv_iconst (v := 0) hx hb dX1_darkIn_0 (by decide) ?_
  refine lv_istore_n (lv' := [(2, .int ((0 : Int32))), (0, .ref (adr G 1)), (1, .ref (adr G a0))]) hx hb dX1_darkIn_1 rfl hl (by decide) rfl (fun ls hl => ?_)
  refine lv_iconst (v := 0) hx hb dX1_darkIn_2 (by decide) ?_
  refine lv_istore_n (lv' := [(3, .int ((0 : Int32))), (2, .int ((0 : Int32))), (0, .ref (adr G 1)), (1, .ref (adr G a0))]) hx hb dX1_darkIn_3 rfl hl (by decide) rfl (fun ls hl => ?_)
  obtain ⟨q4, q4h, h⟩ := bd_some h
  refine l_i_X1_darkIn_4 C ha0 q4h ?_ _ _ _ hW (lv_sub hl [2, 3, 1, 0] rfl)
  intro H locs ls hW hl
  refine lv_iload_n hx hb dX1_darkIn_27 rfl (lv_at hl 0 rfl) ?_
  obtain rfl := Option.some.inj h
  exact K _ _ _ _ dX1_darkIn_28 hW
set_option maxRecDepth 100000 in
theorem c_X1_darkIn (l : Launch) (G : Geo) {S : St} {a0 : Nat} {o : Int32} (h : f_X1_darkIn S a0 = some o) : MI 37 eX G l yX1_darkIn cX1_darkIn 4 (some .int) 0 [.ref (adr G 1), .ref (adr G a0)] S o S :=
  mI_of (by decide +kernel) (Nat.le_of_ble_eq_true rfl) (fun p e s m below meth c A H0 Q C K => w_f_X1_darkIn C h K)
def i_X0_goThrough_33 (S : St) (x2 : Nat) (x3 : Int32) (x4 : Int32) (x5 : Int32) : Option ((St × Int32) ⊕ ((St × Int32) ⊕ (St))) :=
  if x4 ≤ x5 then (some (.inr (.inl (S, x5)))) else (bd (f_X4_at S x2 (x3 + (((2 : Int32)) * x5))) fun r49 => bd (f_X4_at S x2 ((x3 + (((2 : Int32)) * x5)) + ((1 : Int32)))) fun r61 => bd (f_X0_happens S r49 r61) fun r64 => if r64.1 = true then (bd (f_X1_darkIn r64.2 36) fun r82 => if r82 = (r64.2 1 0) then (some (.inl (up r64.2 5 3 ((r64.2 5 3) + ((1 : Int32))), x5 + (1 : Int32)))) else (some (.inl (r64.2, x5 + (1 : Int32))))) else (some (.inr (.inr (up r64.2 5 1 x5)))))
set_option maxHeartbeats 4000000 in
set_option maxRecDepth 100000 in
theorem w_i_X0_goThrough_33 {G : Geo} {p : Program} {l : Launch} {e : Env} {s : State} {m : MethodId} {args : Array Value} {below : List Frame} {meth : Method} {c : Code} {A : Nat → Prop} {H0 : Heap} {Q : State → Prop} (C : Cx G RX0 cX0_goThrough 6 p s m args c) {S : St} {x2 : Nat} {x3 : Int32} {x4 : Int32} {x5 : Int32} {o : (St × Int32) ⊕ ((St × Int32) ⊕ (St))} (hx2 : shX x2) (h : i_X0_goThrough_33 S x2 x3 x4 x5 = some o) (Kn : ∀ q, o = .inl q → ∀ (H : Heap) (locs : List Loc) (ls : Array Slot), HX G A H0 q.1 H locs → lv_has ls 6 [(0, .ref (adr G 5)), (1, .ref (adr G 1)), (2, .ref (adr G x2)), (3, .int x3), (4, .int x4), (5, .int (q.2))] → W p l e (rmK 5) s m args below meth c H locs 0 0 Q (F0 m 33 ls [])) (Kt : ∀ u, o = .inr u → (∀ q, u = .inl q → ∀ (H : Heap) (locs : List Loc) (ls : Array Slot), HX G A H0 q.1 H locs → lv_has ls 6 [] → W p l e (rmK 5) s m args below meth c H locs 0 0 Q (F0 m 108 ls [])) ∧ (∀ r, u = .inr r → KV 37 eX G A H0 cX0_goThrough p l e 5 s m args below meth c Q r)) : ∀ (H : Heap) (locs : List Loc) (ls : Array Slot), HX G A H0 S H locs → lv_has ls 6 [(0, .ref (adr G 5)), (1, .ref (adr G 1)), (2, .ref (adr G x2)), (3, .int x3), (4, .int x4), (5, .int x5)] → W p l e (rmK 5) s m args below meth c H locs 0 0 Q (F0 m 33 ls []) := by
  obtain ⟨hx, hb, -⟩ := id C
  intro H locs ls hW hl
  unfold i_X0_goThrough_33 at h
  refine lv_iload hx hb dX0_goThrough_33 (lv_at hl 5 rfl) ?_
  refine lv_iload hx hb dX0_goThrough_35 (lv_at hl 4 rfl) ?_
  refine lv_icmp_ge (tgt := 108) hx hb dX0_goThrough_37 (by decide) (fun b37 => ?_) (fun b37 => ?_)
  · have h := it_t b37 h
    obtain rfl := Option.some.inj h
    exact (Kt _ rfl).1 _ rfl _ _ _ hW (lv_sub hl [] rfl)
  · have h := it_f b37 h
    refine lv_aload_n hx hb dX0_goThrough_40 rfl (lv_at hl 0 rfl) ?_
    refine lv_aload_n hx hb dX0_goThrough_41 rfl (lv_at hl 1 rfl) ?_
    refine lv_aload_n hx hb dX0_goThrough_42 rfl (lv_at hl 2 rfl) ?_
    refine lv_iload_n hx hb dX0_goThrough_43 rfl (lv_at hl 3 rfl) ?_
    refine lv_iconst (v := 2) hx hb dX0_goThrough_44 (by decide) ?_
    refine lv_iload hx hb dX0_goThrough_45 (lv_at hl 5 rfl) ?_
    refine lv_imul hx hb dX0_goThrough_47 ?_
    refine lv_iadd hx hb dX0_goThrough_48 ?_
    obtain ⟨r49, r49h, h⟩ := bd_some h
    refine x_backI hW (x_runV (As := [.int (x3 + (((2 : Int32)) * x5))]) (rest := [.ref (adr G 1), .ref (adr G 5)]) C hW (c_X4_at l G r49h H.size) cv_RX0_36 (rv_X4 hx2) hl.1 rfl rfl ⟨by decide, by decide⟩ (Nat.le_of_ble_eq_true rfl) ⟨Nat.zero_le _, Nat.zero_le _⟩ dX0_goThrough_49) (fun H locs hW => ?_)
    refine lv_aload_n hx hb dX0_goThrough_52 rfl (lv_at hl 2 rfl) ?_
    refine lv_iload_n hx hb dX0_goThrough_53 rfl (lv_at hl 3 rfl) ?_
    refine lv_iconst (v := 2) hx hb dX0_goThrough_54 (by decide) ?_
    refine lv_iload hx hb dX0_goThrough_55 (lv_at hl 5 rfl) ?_
    refine lv_imul hx hb dX0_goThrough_57 ?_
    refine lv_iadd hx hb dX0_goThrough_58 ?_
    refine lv_iconst (v := 1) hx hb dX0_goThrough_59 (by decide) ?_
    refine lv_iadd hx hb dX0_goThrough_60 ?_
    obtain ⟨r61, r61h, h⟩ := bd_some h
    refine x_backI hW (x_runV (As := [.int ((x3 + (((2 : Int32)) * x5)) + ((1 : Int32)))]) (rest := [.int r49, .ref (adr G 1), .ref (adr G 5)]) C hW (c_X4_at l G r61h H.size) cv_RX0_36 (rv_X4 hx2) hl.1 rfl rfl ⟨by decide, by decide⟩ (Nat.le_of_ble_eq_true rfl) ⟨Nat.zero_le _, Nat.zero_le _⟩ dX0_goThrough_61) (fun H locs hW => ?_)
    obtain ⟨r64, r64h, h⟩ := bd_some h
    refine x_backI hW (x_runV (As := [.ref (adr G 1), .int r49, .int r61]) (rest := []) C hW (c_X0_happens l G r64h H.size) cv_RX0_42 rv_X0 hl.1 rfl rfl ⟨by decide, by decide⟩ (Nat.le_of_ble_eq_true rfl) ⟨Nat.zero_le _, Nat.zero_le _⟩ dX0_goThrough_64) (fun H locs hW => ?_)
    refine z_if_ne (tgt := 77) hx hb dX0_goThrough_67 (by decide) (fun b67 => ?_) (fun b67 => ?_)
    · have h := it_t b67 h
      refine lv_aload_n hx hb dX0_goThrough_77 rfl (lv_at hl 1 rfl) ?_
      refine lv_aload_n hx hb dX0_goThrough_78 rfl (lv_at hl 0 rfl) ?_
      refine gf_RX0_9 C hW dX0_goThrough_79 ?_
      obtain ⟨r82, r82h, h⟩ := bd_some h
      refine x_backI hW (x_runV (As := [.ref (adr G 36)]) (rest := []) C hW (c_X1_darkIn l G r82h H.size) cv_RX0_46 rv_X1 hl.1 rfl rfl ⟨by decide, by decide⟩ (Nat.le_of_ble_eq_true rfl) ⟨Nat.zero_le _, Nat.zero_le _⟩ dX0_goThrough_82) (fun H locs hW => ?_)
      refine lv_aload_n hx hb dX0_goThrough_85 rfl (lv_at hl 1 rfl) ?_
      refine gf_RX0_50 C hW dX0_goThrough_86 ?_
      refine lv_icmp_ne (tgt := 102) hx hb dX0_goThrough_89 (by decide) (fun b89 => ?_) (fun b89 => ?_)
      · have h := it_f b89 h
        refine lv_iinc (v := (x5 + (1 : Int32))) (lv' := [(5, .int (x5 + (1 : Int32))), (0, .ref (adr G 5)), (1, .ref (adr G 1)), (2, .ref (adr G x2)), (3, .int x3), (4, .int x4)]) hx hb dX0_goThrough_102 hl (k := 5) rfl rfl (by decide) rfl (fun ls hl => ?_)
        refine lv_goto (tgt := 33) hx hb dX0_goThrough_105 (by decide) ?_
        obtain rfl := Option.some.inj h
        exact Kn _ rfl _ _ _ hW (lv_sub hl [1, 2, 3, 4, 5, 0] rfl)
      · have h := it_t b89 h
        refine lv_aload_n hx hb dX0_goThrough_92 rfl (lv_at hl 0 rfl) ?_
        refine lv_dup hx hb dX0_goThrough_93 rfl ?_
        refine gf_RX0_33 C hW dX0_goThrough_94 ?_
        refine lv_iconst (v := 1) hx hb dX0_goThrough_97 (by decide) ?_
        refine lv_iadd hx hb dX0_goThrough_98 ?_
        refine pf_RX0_33 C hW dX0_goThrough_99 (fun H locs hW => ?_)
        refine lv_iinc (v := (x5 + (1 : Int32))) (lv' := [(5, .int (x5 + (1 : Int32))), (0, .ref (adr G 5)), (1, .ref (adr G 1)), (2, .ref (adr G x2)), (3, .int x3), (4, .int x4)]) hx hb dX0_goThrough_102 hl (k := 5) rfl rfl (by decide) rfl (fun ls hl => ?_)
        refine lv_goto (tgt := 33) hx hb dX0_goThrough_105 (by decide) ?_
        obtain rfl := Option.some.inj h
        exact Kn _ rfl _ _ _ hW (lv_sub hl [1, 2, 3, 4, 5, 0] rfl)
    · have h := it_f b67 h
      refine lv_aload_n hx hb dX0_goThrough_70 rfl (lv_at hl 0 rfl) ?_
      refine lv_iload hx hb dX0_goThrough_71 (lv_at hl 5 rfl) ?_
      refine pf_RX0_26 C hW dX0_goThrough_73 (fun H locs hW => ?_)
      obtain rfl := Option.some.inj h
      exact (Kt _ rfl).2 _ rfl _ _ _ _ dX0_goThrough_76 hW
set_option maxHeartbeats 4000000 in
set_option maxRecDepth 100000 in
theorem l_i_X0_goThrough_33 {G : Geo} {p : Program} {l : Launch} {e : Env} {s : State} {m : MethodId} {args : Array Value} {below : List Frame} {meth : Method} {c : Code} {A : Nat → Prop} {H0 : Heap} {Q : State → Prop} (C : Cx G RX0 cX0_goThrough 6 p s m args c) {x2 : Nat} {x3 : Int32} {x4 : Int32} {n : Nat} {q0 : St × Int32} {u : (St × Int32) ⊕ (St)} (hx2 : shX x2) (hq : iter (fun q : St × Int32 => i_X0_goThrough_33 q.1 x2 x3 x4 q.2) n q0 = some u) (Kt : (∀ q, u = .inl q → ∀ (H : Heap) (locs : List Loc) (ls : Array Slot), HX G A H0 q.1 H locs → lv_has ls 6 [] → W p l e (rmK 5) s m args below meth c H locs 0 0 Q (F0 m 108 ls [])) ∧ (∀ r, u = .inr r → KV 37 eX G A H0 cX0_goThrough p l e 5 s m args below meth c Q r)) : (fun q : St × Int32 => ∀ (H : Heap) (locs : List Loc) (ls : Array Slot), HX G A H0 q.1 H locs → lv_has ls 6 [(0, .ref (adr G 5)), (1, .ref (adr G 1)), (2, .ref (adr G x2)), (3, .int x3), (4, .int x4), (5, .int (q.2))] → W p l e (rmK 5) s m args below meth c H locs 0 0 Q (F0 m 33 ls [])) q0 :=
  iter_W (P := fun q : St × Int32 => ∀ (H : Heap) (locs : List Loc) (ls : Array Slot), HX G A H0 q.1 H locs → lv_has ls 6 [(0, .ref (adr G 5)), (1, .ref (adr G 1)), (2, .ref (adr G x2)), (3, .int x3), (4, .int x4), (5, .int (q.2))] → W p l e (rmK 5) s m args below meth c H locs 0 0 Q (F0 m 33 ls [])) (K := fun u => (∀ q, u = .inl q → ∀ (H : Heap) (locs : List Loc) (ls : Array Slot), HX G A H0 q.1 H locs → lv_has ls 6 [] → W p l e (rmK 5) s m args below meth c H locs 0 0 Q (F0 m 108 ls [])) ∧ (∀ r, u = .inr r → KV 37 eX G A H0 cX0_goThrough p l e 5 s m args below meth c Q r)) (fun q o hit Kn Kt => w_i_X0_goThrough_33 C hx2 hit Kn Kt) n q0 u hq Kt
def f_X0_goThrough (S : St) (a1 : Nat) (a2 : Int32) (a3 : Int32) : Option (St) :=
  ck (shX a1) <| ck (okc ((0 : Int32)) ((0 : Int32)) ((5 : Int32)) 5 5) <| bd (iter (fun q => i_X0_goThrough_33 q.1 a1 a2 a3 q.2) BIG (up (up (up (va_up S 36 (va_cpy (S 23) (S 36) (ix ((0 : Int32))) (ix ((0 : Int32))) (ix ((5 : Int32))))) 5 1 ((-9 : Int32))) 5 2 ((0 : Int32))) 5 3 ((0 : Int32)), (0 : Int32))) fun u33 => sm u33 (fun q33 => some q33.1) fun w33 => some w33
set_option maxHeartbeats 4000000 in
set_option maxRecDepth 100000 in
theorem w_f_X0_goThrough {G : Geo} {p : Program} {l : Launch} {e : Env} {s : State} {m : MethodId} {args : Array Value} {below : List Frame} {meth : Method} {c : Code} {A : Nat → Prop} {H0 : Heap} {Q : State → Prop} (C : Cx G RX0 cX0_goThrough 6 p s m args c) {S : St} {a1 : Nat} {a2 : Int32} {a3 : Int32} {o : St} (h : f_X0_goThrough S a1 a2 a3 = some o) (K : KV 37 eX G A H0 cX0_goThrough p l e 5 s m args below meth c Q o) : ∀ (H : Heap) (locs : List Loc) (ls : Array Slot), HX G A H0 S H locs → lv_has ls 6 [(0, .ref (adr G 5)), (1, .ref (adr G 1)), (2, .ref (adr G a1)), (3, .int a2), (4, .int a3)] → W p l e (rmK 5) s m args below meth c H locs 0 0 Q (F0 m 0 ls []) := by
  obtain ⟨hx, hb, -⟩ := id C
  intro H locs ls hW hl
  unfold f_X0_goThrough at h
  obtain ⟨ha1, h⟩ := ck_some h
  refine lv_aload_n hx hb dX0_goThrough_0 rfl (lv_at hl 1 rfl) ?_
  refine gf_RX0_15 C hW dX0_goThrough_1 ?_
  refine lv_iconst (v := 0) hx hb dX0_goThrough_4 (by decide) ?_
  refine lv_aload_n hx hb dX0_goThrough_5 rfl (lv_at hl 0 rfl) ?_
  refine gf_RX0_9 C hW dX0_goThrough_6 ?_
  refine lv_iconst (v := 0) hx hb dX0_goThrough_9 (by decide) ?_
  refine lv_iconst (v := 5) hx hb dX0_goThrough_10 (by decide) ?_
  obtain ⟨g11, h⟩ := ck_some h
  refine x_copy C hW hl.1 uML_RX0_20 uNA_arraycopyName uST_arraycopyName uINI_RJ10 (k0 := 23) (k1 := 36) (by decide) (fun _ => rfl) (by decide) (fun _ => rfl) g11 (by decide) (by decide) dX0_goThrough_11 (fun H locs hW => ?_)
  refine lv_aload_n hx hb dX0_goThrough_14 rfl (lv_at hl 0 rfl) ?_
  refine lv_bipush (v := (-9)) hx hb dX0_goThrough_15 (by decide) ?_
  refine pf_RX0_26 C hW dX0_goThrough_17 (fun H locs hW => ?_)
  refine lv_aload_n hx hb dX0_goThrough_20 rfl (lv_at hl 0 rfl) ?_
  refine lv_iconst (v := 0) hx hb dX0_goThrough_21 (by decide) ?_
  refine pf_RX0_30 C hW dX0_goThrough_22 (fun H locs hW => ?_)
  refine lv_aload_n hx hb dX0_goThrough_25 rfl (lv_at hl 0 rfl) ?_
  refine lv_iconst (v := 0) hx hb dX0_goThrough_26 (by decide) ?_
  refine pf_RX0_33 C hW dX0_goThrough_27 (fun H locs hW => ?_)
  refine lv_iconst (v := 0) hx hb dX0_goThrough_30 (by decide) ?_
  refine lv_istore (lv' := [(5, .int ((0 : Int32))), (0, .ref (adr G 5)), (1, .ref (adr G 1)), (2, .ref (adr G a1)), (3, .int a2), (4, .int a3)]) hx hb dX0_goThrough_31 hl (by decide) rfl (fun ls hl => ?_)
  obtain ⟨u33, u33h, h⟩ := bd_some h
  refine l_i_X0_goThrough_33 C ha1 u33h ⟨?_, ?_⟩ _ _ _ hW (lv_sub hl [1, 2, 3, 4, 5, 0] rfl)
  · intro q33 hu; subst hu; have h := sm_l h
    intro H locs ls hW hl
    obtain rfl := Option.some.inj h
    exact K _ _ _ _ dX0_goThrough_108 hW
  · intro w33 hu; subst hu; have h := sm_r h
    obtain rfl := Option.some.inj h
    exact K
set_option maxRecDepth 100000 in
theorem c_X0_goThrough (l : Launch) (G : Geo) {S : St} {a1 : Nat} {a2 : Int32} {a3 : Int32} {o : St} (h : f_X0_goThrough S a1 a2 a3 = some o) : MV 37 eX G l yX0_goThrough cX0_goThrough 6 none 5 [.ref (adr G 5), .ref (adr G 1), .ref (adr G a1), .int a2, .int a3] S o :=
  mV_of (by decide +kernel) (Nat.le_of_ble_eq_true rfl) (fun p e s m below meth c A H0 Q C K => w_f_X0_goThrough C h K)
def f_X1_allSwitches (S : St) : Option (Int32) :=
  some ((shl32 ((1 : Int32)) (S 1 3)) - ((1 : Int32)))
set_option maxHeartbeats 4000000 in
set_option maxRecDepth 100000 in
theorem w_f_X1_allSwitches {G : Geo} {p : Program} {l : Launch} {e : Env} {s : State} {m : MethodId} {args : Array Value} {below : List Frame} {meth : Method} {c : Code} {A : Nat → Prop} {H0 : Heap} {Q : State → Prop} (C : Cx G RX1 cX1_allSwitches 1 p s m args c) {S : St}  {o : Int32} (h : f_X1_allSwitches S = some o) (K : KI 37 eX G A H0 cX1_allSwitches p l e 0 s m args below meth c Q o S) : ∀ (H : Heap) (locs : List Loc) (ls : Array Slot), HX G A H0 S H locs → lv_has ls 1 [(0, .ref (adr G 1))] → W p l e (rmK 0) s m args below meth c H locs 0 0 Q (F0 m 0 ls []) := by
  obtain ⟨hx, hb, -⟩ := id C
  intro H locs ls hW hl
  unfold f_X1_allSwitches at h
  refine lv_iconst (v := 1) hx hb dX1_allSwitches_0 (by decide) ?_
  refine lv_aload_n hx hb dX1_allSwitches_1 rfl (lv_at hl 0 rfl) ?_
  refine gf_RX1_34 C hW dX1_allSwitches_2 ?_
  refine lv_ishl hx hb dX1_allSwitches_5 ?_
  refine lv_iconst (v := 1) hx hb dX1_allSwitches_6 (by decide) ?_
  refine lv_isub hx hb dX1_allSwitches_7 ?_
  obtain rfl := Option.some.inj h
  exact K _ _ _ _ dX1_allSwitches_8 hW
set_option maxRecDepth 100000 in
theorem c_X1_allSwitches (l : Launch) (G : Geo) {S : St}  {o : Int32} (h : f_X1_allSwitches S = some o) : MI 37 eX G l yX1_allSwitches cX1_allSwitches 1 (some .int) 0 [.ref (adr G 1)] S o S :=
  mI_of (by decide +kernel) (Nat.le_of_ble_eq_true rfl) (fun p e s m below meth c A H0 Q C K => w_f_X1_allSwitches C h K)
def f_X1_isMissing (S : St) : Option (Bool) :=
  if (S 1 0) = 0 then (some true) else (some false)
set_option maxHeartbeats 4000000 in
set_option maxRecDepth 100000 in
theorem w_f_X1_isMissing {G : Geo} {p : Program} {l : Launch} {e : Env} {s : State} {m : MethodId} {args : Array Value} {below : List Frame} {meth : Method} {c : Code} {A : Nat → Prop} {H0 : Heap} {Q : State → Prop} (C : Cx G RX1 cX1_isMissing 1 p s m args c) {S : St}  {o : Bool} (h : f_X1_isMissing S = some o) (K : KI 37 eX G A H0 cX1_isMissing p l e 0 s m args below meth c Q (bi o) S) : ∀ (H : Heap) (locs : List Loc) (ls : Array Slot), HX G A H0 S H locs → lv_has ls 1 [(0, .ref (adr G 1))] → W p l e (rmK 0) s m args below meth c H locs 0 0 Q (F0 m 0 ls []) := by
  obtain ⟨hx, hb, -⟩ := id C
  intro H locs ls hW hl
  unfold f_X1_isMissing at h
  refine lv_aload_n hx hb dX1_isMissing_0 rfl (lv_at hl 0 rfl) ?_
  refine gf_RX1_30 C hW dX1_isMissing_1 ?_
  refine lv_if_ne (tgt := 11) hx hb dX1_isMissing_4 (by decide) (fun b4 => ?_) (fun b4 => ?_)
  · have h := it_f b4 h
    refine lv_iconst (v := 0) hx hb dX1_isMissing_11 (by decide) ?_
    obtain rfl := Option.some.inj h
    exact K _ _ _ _ dX1_isMissing_12 hW
  · have h := it_t b4 h
    refine lv_iconst (v := 1) hx hb dX1_isMissing_7 (by decide) ?_
    refine lv_goto (tgt := 12) hx hb dX1_isMissing_8 (by decide) ?_
    obtain rfl := Option.some.inj h
    exact K _ _ _ _ dX1_isMissing_12 hW
set_option maxRecDepth 100000 in
theorem c_X1_isMissing (l : Launch) (G : Geo) {S : St}  {o : Bool} (h : f_X1_isMissing S = some o) : MI 37 eX G l yX1_isMissing cX1_isMissing 1 (some .boolean) 0 [.ref (adr G 1)] S (bi o) S :=
  mZ_of (by decide +kernel) (Nat.le_of_ble_eq_true rfl) (fun p e s m below meth c A H0 Q C K => w_f_X1_isMissing C h K)
def i_X1_pressesInAll_4 (S : St) (x1 : Int32) (x2 : Int32) : Option ((Int32 × Int32) ⊕ (Int32 × Int32)) :=
  if (S 1 3) ≤ x2 then (some (.inr (x1, x2))) else (ck (okx x2 5) <| some (.inl (x1 + (S 27 (ix x2)), x2 + (1 : Int32))))
set_option maxHeartbeats 4000000 in
set_option maxRecDepth 100000 in
theorem w_i_X1_pressesInAll_4 {G : Geo} {p : Program} {l : Launch} {e : Env} {s : State} {m : MethodId} {args : Array Value} {below : List Frame} {meth : Method} {c : Code} {A : Nat → Prop} {H0 : Heap} {Q : State → Prop} (C : Cx G RX1 cX1_pressesInAll 3 p s m args c) {S : St} {x1 : Int32} {x2 : Int32} {o : (Int32 × Int32) ⊕ (Int32 × Int32)} (h : i_X1_pressesInAll_4 S x1 x2 = some o) (Kn : ∀ q, o = .inl q → ∀ (H : Heap) (locs : List Loc) (ls : Array Slot), HX G A H0 S H locs → lv_has ls 3 [(0, .ref (adr G 1)), (1, .int (q.1)), (2, .int (q.2))] → W p l e (rmK 0) s m args below meth c H locs 0 0 Q (F0 m 4 ls [])) (Kt : ∀ q, o = .inr q → ∀ (H : Heap) (locs : List Loc) (ls : Array Slot), HX G A H0 S H locs → lv_has ls 3 [(1, .int (q.1))] → W p l e (rmK 0) s m args below meth c H locs 0 0 Q (F0 m 27 ls [])) : ∀ (H : Heap) (locs : List Loc) (ls : Array Slot), HX G A H0 S H locs → lv_has ls 3 [(0, .ref (adr G 1)), (1, .int x1), (2, .int x2)] → W p l e (rmK 0) s m args below meth c H locs 0 0 Q (F0 m 4 ls []) := by
  obtain ⟨hx, hb, -⟩ := id C
  intro H locs ls hW hl
  unfold i_X1_pressesInAll_4 at h
  refine lv_iload_n hx hb dX1_pressesInAll_4 rfl (lv_at hl 2 rfl) ?_
  refine lv_aload_n hx hb dX1_pressesInAll_5 rfl (lv_at hl 0 rfl) ?_
  refine gf_RX1_34 C hW dX1_pressesInAll_6 ?_
  refine lv_icmp_ge (tgt := 27) hx hb dX1_pressesInAll_9 (by decide) (fun b9 => ?_) (fun b9 => ?_)
  · have h := it_t b9 h
    obtain rfl := Option.some.inj h
    exact Kt _ rfl _ _ _ hW (lv_sub hl [1] rfl)
  · have h := it_f b9 h
    refine lv_iload_n hx hb dX1_pressesInAll_12 rfl (lv_at hl 1 rfl) ?_
    refine lv_aload_n hx hb dX1_pressesInAll_13 rfl (lv_at hl 0 rfl) ?_
    refine gf_RX1_27 C hW dX1_pressesInAll_14 ?_
    refine lv_iload_n hx hb dX1_pressesInAll_17 rfl (lv_at hl 2 rfl) ?_
    obtain ⟨g18, h⟩ := ck_some h
    refine x_iald C hW (k := 27) (n := 5) (by decide) (fun _ => rfl) g18 dX1_pressesInAll_18 ?_
    refine lv_iadd hx hb dX1_pressesInAll_19 ?_
    refine lv_istore_n (lv' := [(1, .int (x1 + (S 27 (ix x2)))), (0, .ref (adr G 1)), (2, .int x2)]) hx hb dX1_pressesInAll_20 rfl hl (by decide) rfl (fun ls hl => ?_)
    refine lv_iinc (v := (x2 + (1 : Int32))) (lv' := [(2, .int (x2 + (1 : Int32))), (1, .int (x1 + (S 27 (ix x2)))), (0, .ref (adr G 1))]) hx hb dX1_pressesInAll_21 hl (k := 2) rfl rfl (by decide) rfl (fun ls hl => ?_)
    refine lv_goto (tgt := 4) hx hb dX1_pressesInAll_24 (by decide) ?_
    obtain rfl := Option.some.inj h
    exact Kn _ rfl _ _ _ hW (lv_sub hl [2, 1, 0] rfl)
set_option maxHeartbeats 4000000 in
set_option maxRecDepth 100000 in
theorem l_i_X1_pressesInAll_4 {G : Geo} {p : Program} {l : Launch} {e : Env} {s : State} {m : MethodId} {args : Array Value} {below : List Frame} {meth : Method} {c : Code} {A : Nat → Prop} {H0 : Heap} {Q : State → Prop} (C : Cx G RX1 cX1_pressesInAll 3 p s m args c) {S : St}  {n : Nat} {q0 : Int32 × Int32} {u : Int32 × Int32} (hq : iter (fun q : Int32 × Int32 => i_X1_pressesInAll_4 S q.1 q.2) n q0 = some u) (Kt : (fun q : Int32 × Int32 => ∀ (H : Heap) (locs : List Loc) (ls : Array Slot), HX G A H0 S H locs → lv_has ls 3 [(1, .int (q.1))] → W p l e (rmK 0) s m args below meth c H locs 0 0 Q (F0 m 27 ls [])) u) : (fun q : Int32 × Int32 => ∀ (H : Heap) (locs : List Loc) (ls : Array Slot), HX G A H0 S H locs → lv_has ls 3 [(0, .ref (adr G 1)), (1, .int (q.1)), (2, .int (q.2))] → W p l e (rmK 0) s m args below meth c H locs 0 0 Q (F0 m 4 ls [])) q0 :=
  iter_W (P := fun q : Int32 × Int32 => ∀ (H : Heap) (locs : List Loc) (ls : Array Slot), HX G A H0 S H locs → lv_has ls 3 [(0, .ref (adr G 1)), (1, .int (q.1)), (2, .int (q.2))] → W p l e (rmK 0) s m args below meth c H locs 0 0 Q (F0 m 4 ls [])) (K := fun q : Int32 × Int32 => ∀ (H : Heap) (locs : List Loc) (ls : Array Slot), HX G A H0 S H locs → lv_has ls 3 [(1, .int (q.1))] → W p l e (rmK 0) s m args below meth c H locs 0 0 Q (F0 m 27 ls [])) (fun q o hit Kn Kt => w_i_X1_pressesInAll_4 C  hit Kn Kt) n q0 u hq Kt
def f_X1_pressesInAll (S : St) : Option (Int32) :=
  bd (iter (fun q => i_X1_pressesInAll_4 S q.1 q.2) BIG ((0 : Int32), (0 : Int32))) fun q4 => some q4.1
set_option maxHeartbeats 4000000 in
set_option maxRecDepth 100000 in
theorem w_f_X1_pressesInAll {G : Geo} {p : Program} {l : Launch} {e : Env} {s : State} {m : MethodId} {args : Array Value} {below : List Frame} {meth : Method} {c : Code} {A : Nat → Prop} {H0 : Heap} {Q : State → Prop} (C : Cx G RX1 cX1_pressesInAll 3 p s m args c) {S : St}  {o : Int32} (h : f_X1_pressesInAll S = some o) (K : KI 37 eX G A H0 cX1_pressesInAll p l e 0 s m args below meth c Q o S) : ∀ (H : Heap) (locs : List Loc) (ls : Array Slot), HX G A H0 S H locs → lv_has ls 3 [(0, .ref (adr G 1))] → W p l e (rmK 0) s m args below meth c H locs 0 0 Q (F0 m 0 ls []) := by
  obtain ⟨hx, hb, -⟩ := id C
  intro H locs ls hW hl
  unfold f_X1_pressesInAll at h
  refine lv_iconst (v := 0) hx hb dX1_pressesInAll_0 (by decide) ?_
  refine lv_istore_n (lv' := [(1, .int ((0 : Int32))), (0, .ref (adr G 1))]) hx hb dX1_pressesInAll_1 rfl hl (by decide) rfl (fun ls hl => ?_)
  refine lv_iconst (v := 0) hx hb dX1_pressesInAll_2 (by decide) ?_
  refine lv_istore_n (lv' := [(2, .int ((0 : Int32))), (1, .int ((0 : Int32))), (0, .ref (adr G 1))]) hx hb dX1_pressesInAll_3 rfl hl (by decide) rfl (fun ls hl => ?_)
  obtain ⟨q4, q4h, h⟩ := bd_some h
  refine l_i_X1_pressesInAll_4 C  q4h ?_ _ _ _ hW (lv_sub hl [2, 1, 0] rfl)
  intro H locs ls hW hl
  refine lv_iload_n hx hb dX1_pressesInAll_27 rfl (lv_at hl 0 rfl) ?_
  obtain rfl := Option.some.inj h
  exact K _ _ _ _ dX1_pressesInAll_28 hW
set_option maxRecDepth 100000 in
theorem c_X1_pressesInAll (l : Launch) (G : Geo) {S : St}  {o : Int32} (h : f_X1_pressesInAll S = some o) : MI 37 eX G l yX1_pressesInAll cX1_pressesInAll 3 (some .int) 0 [.ref (adr G 1)] S o S :=
  mI_of (by decide +kernel) (Nat.le_of_ble_eq_true rfl) (fun p e s m below meth c A H0 Q C K => w_f_X1_pressesInAll C h K)
def i_X1_shadesIn_4 (S : St) (x1 : Nat) (x2 : Int32) (x3 : Int32) : Option ((Int32 × Int32) ⊕ (Int32 × Int32)) :=
  if (S 1 0) ≤ x3 then (some (.inr (x2, x3))) else (ck (okx x3 (lenX x1)) <| some (.inl (x2 + (S x1 (ix x3)), x3 + (1 : Int32))))
set_option maxHeartbeats 4000000 in
set_option maxRecDepth 100000 in
theorem w_i_X1_shadesIn_4 {G : Geo} {p : Program} {l : Launch} {e : Env} {s : State} {m : MethodId} {args : Array Value} {below : List Frame} {meth : Method} {c : Code} {A : Nat → Prop} {H0 : Heap} {Q : State → Prop} (C : Cx G RX1 cX1_shadesIn 4 p s m args c) {S : St} {x1 : Nat} {x2 : Int32} {x3 : Int32} {o : (Int32 × Int32) ⊕ (Int32 × Int32)} (hx1 : arX x1) (h : i_X1_shadesIn_4 S x1 x2 x3 = some o) (Kn : ∀ q, o = .inl q → ∀ (H : Heap) (locs : List Loc) (ls : Array Slot), HX G A H0 S H locs → lv_has ls 4 [(0, .ref (adr G 1)), (1, .ref (adr G x1)), (2, .int (q.1)), (3, .int (q.2))] → W p l e (rmK 0) s m args below meth c H locs 0 0 Q (F0 m 4 ls [])) (Kt : ∀ q, o = .inr q → ∀ (H : Heap) (locs : List Loc) (ls : Array Slot), HX G A H0 S H locs → lv_has ls 4 [(2, .int (q.1))] → W p l e (rmK 0) s m args below meth c H locs 0 0 Q (F0 m 24 ls [])) : ∀ (H : Heap) (locs : List Loc) (ls : Array Slot), HX G A H0 S H locs → lv_has ls 4 [(0, .ref (adr G 1)), (1, .ref (adr G x1)), (2, .int x2), (3, .int x3)] → W p l e (rmK 0) s m args below meth c H locs 0 0 Q (F0 m 4 ls []) := by
  obtain ⟨hx, hb, -⟩ := id C
  intro H locs ls hW hl
  unfold i_X1_shadesIn_4 at h
  refine lv_iload_n hx hb dX1_shadesIn_4 rfl (lv_at hl 3 rfl) ?_
  refine lv_aload_n hx hb dX1_shadesIn_5 rfl (lv_at hl 0 rfl) ?_
  refine gf_RX1_30 C hW dX1_shadesIn_6 ?_
  refine lv_icmp_ge (tgt := 24) hx hb dX1_shadesIn_9 (by decide) (fun b9 => ?_) (fun b9 => ?_)
  · have h := it_t b9 h
    obtain rfl := Option.some.inj h
    exact Kt _ rfl _ _ _ hW (lv_sub hl [2] rfl)
  · have h := it_f b9 h
    refine lv_iload_n hx hb dX1_shadesIn_12 rfl (lv_at hl 2 rfl) ?_
    refine lv_aload_n hx hb dX1_shadesIn_13 rfl (lv_at hl 1 rfl) ?_
    refine lv_iload_n hx hb dX1_shadesIn_14 rfl (lv_at hl 3 rfl) ?_
    obtain ⟨g15, h⟩ := ck_some h
    refine x_iald C hW (k := x1) (n := (lenX x1)) hx1.2 (eX_ar hx1) g15 dX1_shadesIn_15 ?_
    refine lv_iadd hx hb dX1_shadesIn_16 ?_
    refine lv_istore_n (lv' := [(2, .int (x2 + (S x1 (ix x3)))), (0, .ref (adr G 1)), (1, .ref (adr G x1)), (3, .int x3)]) hx hb dX1_shadesIn_17 rfl hl (by decide) rfl (fun ls hl => ?_)
    refine lv_iinc (v := (x3 + (1 : Int32))) (lv' := [(3, .int (x3 + (1 : Int32))), (2, .int (x2 + (S x1 (ix x3)))), (0, .ref (adr G 1)), (1, .ref (adr G x1))]) hx hb dX1_shadesIn_18 hl (k := 3) rfl rfl (by decide) rfl (fun ls hl => ?_)
    refine lv_goto (tgt := 4) hx hb dX1_shadesIn_21 (by decide) ?_
    obtain rfl := Option.some.inj h
    exact Kn _ rfl _ _ _ hW (lv_sub hl [2, 3, 1, 0] rfl)
set_option maxHeartbeats 4000000 in
set_option maxRecDepth 100000 in
theorem l_i_X1_shadesIn_4 {G : Geo} {p : Program} {l : Launch} {e : Env} {s : State} {m : MethodId} {args : Array Value} {below : List Frame} {meth : Method} {c : Code} {A : Nat → Prop} {H0 : Heap} {Q : State → Prop} (C : Cx G RX1 cX1_shadesIn 4 p s m args c) {S : St} {x1 : Nat} {n : Nat} {q0 : Int32 × Int32} {u : Int32 × Int32} (hx1 : arX x1) (hq : iter (fun q : Int32 × Int32 => i_X1_shadesIn_4 S x1 q.1 q.2) n q0 = some u) (Kt : (fun q : Int32 × Int32 => ∀ (H : Heap) (locs : List Loc) (ls : Array Slot), HX G A H0 S H locs → lv_has ls 4 [(2, .int (q.1))] → W p l e (rmK 0) s m args below meth c H locs 0 0 Q (F0 m 24 ls [])) u) : (fun q : Int32 × Int32 => ∀ (H : Heap) (locs : List Loc) (ls : Array Slot), HX G A H0 S H locs → lv_has ls 4 [(0, .ref (adr G 1)), (1, .ref (adr G x1)), (2, .int (q.1)), (3, .int (q.2))] → W p l e (rmK 0) s m args below meth c H locs 0 0 Q (F0 m 4 ls [])) q0 :=
  iter_W (P := fun q : Int32 × Int32 => ∀ (H : Heap) (locs : List Loc) (ls : Array Slot), HX G A H0 S H locs → lv_has ls 4 [(0, .ref (adr G 1)), (1, .ref (adr G x1)), (2, .int (q.1)), (3, .int (q.2))] → W p l e (rmK 0) s m args below meth c H locs 0 0 Q (F0 m 4 ls [])) (K := fun q : Int32 × Int32 => ∀ (H : Heap) (locs : List Loc) (ls : Array Slot), HX G A H0 S H locs → lv_has ls 4 [(2, .int (q.1))] → W p l e (rmK 0) s m args below meth c H locs 0 0 Q (F0 m 24 ls [])) (fun q o hit Kn Kt => w_i_X1_shadesIn_4 C hx1 hit Kn Kt) n q0 u hq Kt
def f_X1_shadesIn (S : St) (a0 : Nat) : Option (Int32) :=
  ck (arX a0) <| bd (iter (fun q => i_X1_shadesIn_4 S a0 q.1 q.2) BIG ((0 : Int32), (0 : Int32))) fun q4 => some q4.1
set_option maxHeartbeats 4000000 in
set_option maxRecDepth 100000 in
theorem w_f_X1_shadesIn {G : Geo} {p : Program} {l : Launch} {e : Env} {s : State} {m : MethodId} {args : Array Value} {below : List Frame} {meth : Method} {c : Code} {A : Nat → Prop} {H0 : Heap} {Q : State → Prop} (C : Cx G RX1 cX1_shadesIn 4 p s m args c) {S : St} {a0 : Nat} {o : Int32} (h : f_X1_shadesIn S a0 = some o) (K : KI 37 eX G A H0 cX1_shadesIn p l e 0 s m args below meth c Q o S) : ∀ (H : Heap) (locs : List Loc) (ls : Array Slot), HX G A H0 S H locs → lv_has ls 4 [(0, .ref (adr G 1)), (1, .ref (adr G a0))] → W p l e (rmK 0) s m args below meth c H locs 0 0 Q (F0 m 0 ls []) := by
  obtain ⟨hx, hb, -⟩ := id C
  intro H locs ls hW hl
  unfold f_X1_shadesIn at h
  obtain ⟨ha0, h⟩ := ck_some h
  refine lv_iconst (v := 0) hx hb dX1_shadesIn_0 (by decide) ?_
  refine lv_istore_n (lv' := [(2, .int ((0 : Int32))), (0, .ref (adr G 1)), (1, .ref (adr G a0))]) hx hb dX1_shadesIn_1 rfl hl (by decide) rfl (fun ls hl => ?_)
  refine lv_iconst (v := 0) hx hb dX1_shadesIn_2 (by decide) ?_
  refine lv_istore_n (lv' := [(3, .int ((0 : Int32))), (2, .int ((0 : Int32))), (0, .ref (adr G 1)), (1, .ref (adr G a0))]) hx hb dX1_shadesIn_3 rfl hl (by decide) rfl (fun ls hl => ?_)
  obtain ⟨q4, q4h, h⟩ := bd_some h
  refine l_i_X1_shadesIn_4 C ha0 q4h ?_ _ _ _ hW (lv_sub hl [2, 3, 1, 0] rfl)
  intro H locs ls hW hl
  refine lv_iload_n hx hb dX1_shadesIn_24 rfl (lv_at hl 0 rfl) ?_
  obtain rfl := Option.some.inj h
  exact K _ _ _ _ dX1_shadesIn_25 hW
set_option maxRecDepth 100000 in
theorem c_X1_shadesIn (l : Launch) (G : Geo) {S : St} {a0 : Nat} {o : Int32} (h : f_X1_shadesIn S a0 = some o) : MI 37 eX G l yX1_shadesIn cX1_shadesIn 4 (some .int) 0 [.ref (adr G 1), .ref (adr G a0)] S o S :=
  mI_of (by decide +kernel) (Nat.le_of_ble_eq_true rfl) (fun p e s m below meth c A H0 Q C K => w_f_X1_shadesIn C h K)
def i_X1_switchesTo_4 (S : St) (x1 : Int32) (x2 : Int32) (x3 : Int32) : Option ((Int32 × Int32) ⊕ (Int32 × Int32)) :=
  if (S 1 3) ≤ x3 then (some (.inr (x2, x3))) else (bd (f_X1_isWired S x3 x1) fun r15 => if r15 = false then (some (.inl (x2, x3 + (1 : Int32)))) else (some (.inl (x2 ||| (shl32 ((1 : Int32)) x3), x3 + (1 : Int32)))))
set_option maxHeartbeats 4000000 in
set_option maxRecDepth 100000 in
theorem w_i_X1_switchesTo_4 {G : Geo} {p : Program} {l : Launch} {e : Env} {s : State} {m : MethodId} {args : Array Value} {below : List Frame} {meth : Method} {c : Code} {A : Nat → Prop} {H0 : Heap} {Q : State → Prop} (C : Cx G RX1 cX1_switchesTo 4 p s m args c) {S : St} {x1 : Int32} {x2 : Int32} {x3 : Int32} {o : (Int32 × Int32) ⊕ (Int32 × Int32)} (h : i_X1_switchesTo_4 S x1 x2 x3 = some o) (Kn : ∀ q, o = .inl q → ∀ (H : Heap) (locs : List Loc) (ls : Array Slot), HX G A H0 S H locs → lv_has ls 4 [(0, .ref (adr G 1)), (1, .int x1), (2, .int (q.1)), (3, .int (q.2))] → W p l e (rmK 1) s m args below meth c H locs 0 0 Q (F0 m 4 ls [])) (Kt : ∀ q, o = .inr q → ∀ (H : Heap) (locs : List Loc) (ls : Array Slot), HX G A H0 S H locs → lv_has ls 4 [(2, .int (q.1))] → W p l e (rmK 1) s m args below meth c H locs 0 0 Q (F0 m 33 ls [])) : ∀ (H : Heap) (locs : List Loc) (ls : Array Slot), HX G A H0 S H locs → lv_has ls 4 [(0, .ref (adr G 1)), (1, .int x1), (2, .int x2), (3, .int x3)] → W p l e (rmK 1) s m args below meth c H locs 0 0 Q (F0 m 4 ls []) := by
  obtain ⟨hx, hb, -⟩ := id C
  intro H locs ls hW hl
  unfold i_X1_switchesTo_4 at h
  refine lv_iload_n hx hb dX1_switchesTo_4 rfl (lv_at hl 3 rfl) ?_
  refine lv_aload_n hx hb dX1_switchesTo_5 rfl (lv_at hl 0 rfl) ?_
  refine gf_RX1_34 C hW dX1_switchesTo_6 ?_
  refine lv_icmp_ge (tgt := 33) hx hb dX1_switchesTo_9 (by decide) (fun b9 => ?_) (fun b9 => ?_)
  · have h := it_t b9 h
    obtain rfl := Option.some.inj h
    exact Kt _ rfl _ _ _ hW (lv_sub hl [2] rfl)
  · have h := it_f b9 h
    refine lv_aload_n hx hb dX1_switchesTo_12 rfl (lv_at hl 0 rfl) ?_
    refine lv_iload_n hx hb dX1_switchesTo_13 rfl (lv_at hl 3 rfl) ?_
    refine lv_iload_n hx hb dX1_switchesTo_14 rfl (lv_at hl 1 rfl) ?_
    obtain ⟨r15, r15h, h⟩ := bd_some h
    refine x_backI hW (x_runV (As := [.int x3, .int x1]) (rest := []) C hW (c_X1_isWired l G r15h H.size) cv_RX1_41 rv_X1 hl.1 rfl rfl ⟨by decide, by decide⟩ (Nat.le_of_ble_eq_true rfl) ⟨Nat.zero_le _, Nat.zero_le _⟩ dX1_switchesTo_15) (fun H locs hW => ?_)
    refine z_if_eq (tgt := 27) hx hb dX1_switchesTo_18 (by decide) (fun b18 => ?_) (fun b18 => ?_)
    · have h := it_t b18 h
      refine lv_iinc (v := (x3 + (1 : Int32))) (lv' := [(3, .int (x3 + (1 : Int32))), (0, .ref (adr G 1)), (1, .int x1), (2, .int x2)]) hx hb dX1_switchesTo_27 hl (k := 3) rfl rfl (by decide) rfl (fun ls hl => ?_)
      refine lv_goto (tgt := 4) hx hb dX1_switchesTo_30 (by decide) ?_
      obtain rfl := Option.some.inj h
      exact Kn _ rfl _ _ _ hW (lv_sub hl [1, 2, 3, 0] rfl)
    · have h := it_f b18 h
      refine lv_iload_n hx hb dX1_switchesTo_21 rfl (lv_at hl 2 rfl) ?_
      refine lv_iconst (v := 1) hx hb dX1_switchesTo_22 (by decide) ?_
      refine lv_iload_n hx hb dX1_switchesTo_23 rfl (lv_at hl 3 rfl) ?_
      refine lv_ishl hx hb dX1_switchesTo_24 ?_
      refine lv_ior hx hb dX1_switchesTo_25 ?_
      refine lv_istore_n (lv' := [(2, .int (x2 ||| (shl32 ((1 : Int32)) x3))), (0, .ref (adr G 1)), (1, .int x1), (3, .int x3)]) hx hb dX1_switchesTo_26 rfl hl (by decide) rfl (fun ls hl => ?_)
      refine lv_iinc (v := (x3 + (1 : Int32))) (lv' := [(3, .int (x3 + (1 : Int32))), (2, .int (x2 ||| (shl32 ((1 : Int32)) x3))), (0, .ref (adr G 1)), (1, .int x1)]) hx hb dX1_switchesTo_27 hl (k := 3) rfl rfl (by decide) rfl (fun ls hl => ?_)
      refine lv_goto (tgt := 4) hx hb dX1_switchesTo_30 (by decide) ?_
      obtain rfl := Option.some.inj h
      exact Kn _ rfl _ _ _ hW (lv_sub hl [2, 3, 1, 0] rfl)
set_option maxHeartbeats 4000000 in
set_option maxRecDepth 100000 in
theorem l_i_X1_switchesTo_4 {G : Geo} {p : Program} {l : Launch} {e : Env} {s : State} {m : MethodId} {args : Array Value} {below : List Frame} {meth : Method} {c : Code} {A : Nat → Prop} {H0 : Heap} {Q : State → Prop} (C : Cx G RX1 cX1_switchesTo 4 p s m args c) {S : St} {x1 : Int32} {n : Nat} {q0 : Int32 × Int32} {u : Int32 × Int32} (hq : iter (fun q : Int32 × Int32 => i_X1_switchesTo_4 S x1 q.1 q.2) n q0 = some u) (Kt : (fun q : Int32 × Int32 => ∀ (H : Heap) (locs : List Loc) (ls : Array Slot), HX G A H0 S H locs → lv_has ls 4 [(2, .int (q.1))] → W p l e (rmK 1) s m args below meth c H locs 0 0 Q (F0 m 33 ls [])) u) : (fun q : Int32 × Int32 => ∀ (H : Heap) (locs : List Loc) (ls : Array Slot), HX G A H0 S H locs → lv_has ls 4 [(0, .ref (adr G 1)), (1, .int x1), (2, .int (q.1)), (3, .int (q.2))] → W p l e (rmK 1) s m args below meth c H locs 0 0 Q (F0 m 4 ls [])) q0 :=
  iter_W (P := fun q : Int32 × Int32 => ∀ (H : Heap) (locs : List Loc) (ls : Array Slot), HX G A H0 S H locs → lv_has ls 4 [(0, .ref (adr G 1)), (1, .int x1), (2, .int (q.1)), (3, .int (q.2))] → W p l e (rmK 1) s m args below meth c H locs 0 0 Q (F0 m 4 ls [])) (K := fun q : Int32 × Int32 => ∀ (H : Heap) (locs : List Loc) (ls : Array Slot), HX G A H0 S H locs → lv_has ls 4 [(2, .int (q.1))] → W p l e (rmK 1) s m args below meth c H locs 0 0 Q (F0 m 33 ls [])) (fun q o hit Kn Kt => w_i_X1_switchesTo_4 C  hit Kn Kt) n q0 u hq Kt
def f_X1_switchesTo (S : St) (a0 : Int32) : Option (Int32) :=
  bd (iter (fun q => i_X1_switchesTo_4 S a0 q.1 q.2) BIG ((0 : Int32), (0 : Int32))) fun q4 => some q4.1
set_option maxHeartbeats 4000000 in
set_option maxRecDepth 100000 in
theorem w_f_X1_switchesTo {G : Geo} {p : Program} {l : Launch} {e : Env} {s : State} {m : MethodId} {args : Array Value} {below : List Frame} {meth : Method} {c : Code} {A : Nat → Prop} {H0 : Heap} {Q : State → Prop} (C : Cx G RX1 cX1_switchesTo 4 p s m args c) {S : St} {a0 : Int32} {o : Int32} (h : f_X1_switchesTo S a0 = some o) (K : KI 37 eX G A H0 cX1_switchesTo p l e 1 s m args below meth c Q o S) : ∀ (H : Heap) (locs : List Loc) (ls : Array Slot), HX G A H0 S H locs → lv_has ls 4 [(0, .ref (adr G 1)), (1, .int a0)] → W p l e (rmK 1) s m args below meth c H locs 0 0 Q (F0 m 0 ls []) := by
  obtain ⟨hx, hb, -⟩ := id C
  intro H locs ls hW hl
  unfold f_X1_switchesTo at h
  refine lv_iconst (v := 0) hx hb dX1_switchesTo_0 (by decide) ?_
  refine lv_istore_n (lv' := [(2, .int ((0 : Int32))), (0, .ref (adr G 1)), (1, .int a0)]) hx hb dX1_switchesTo_1 rfl hl (by decide) rfl (fun ls hl => ?_)
  refine lv_iconst (v := 0) hx hb dX1_switchesTo_2 (by decide) ?_
  refine lv_istore_n (lv' := [(3, .int ((0 : Int32))), (2, .int ((0 : Int32))), (0, .ref (adr G 1)), (1, .int a0)]) hx hb dX1_switchesTo_3 rfl hl (by decide) rfl (fun ls hl => ?_)
  obtain ⟨q4, q4h, h⟩ := bd_some h
  refine l_i_X1_switchesTo_4 C  q4h ?_ _ _ _ hW (lv_sub hl [2, 3, 1, 0] rfl)
  intro H locs ls hW hl
  refine lv_iload_n hx hb dX1_switchesTo_33 rfl (lv_at hl 0 rfl) ?_
  obtain rfl := Option.some.inj h
  exact K _ _ _ _ dX1_switchesTo_34 hW
set_option maxRecDepth 100000 in
theorem c_X1_switchesTo (l : Launch) (G : Geo) {S : St} {a0 : Int32} {o : Int32} (h : f_X1_switchesTo S a0 = some o) : MI 37 eX G l yX1_switchesTo cX1_switchesTo 4 (some .int) 1 [.ref (adr G 1), .int a0] S o S :=
  mI_of (by decide +kernel) (Nat.le_of_ble_eq_true rfl) (fun p e s m below meth c A H0 Q C K => w_f_X1_switchesTo C h K)
def f_X3_add (S : St) (a0 : Int32) (a1 : Int32) (a2 : Int32) : Option (Int32 × St) :=
  if (S 4 0) < 0 then (some ((-4 : Int32), S)) else (if (S 4 0) < ((8 : Int32)) then (ck (okx (S 4 0) 8) <| ck (okx ((up S 33 (ix (S 4 0)) a0) 4 0) 8) <| ck (okx ((up (up S 33 (ix (S 4 0)) a0) 34 (ix ((up S 33 (ix (S 4 0)) a0) 4 0)) a1) 4 0) 8) <| some (((up (up (up (up S 33 (ix (S 4 0)) a0) 34 (ix ((up S 33 (ix (S 4 0)) a0) 4 0)) a1) 35 (ix ((up (up S 33 (ix (S 4 0)) a0) 34 (ix ((up S 33 (ix (S 4 0)) a0) 4 0)) a1) 4 0)) a2) 4 0 (((up (up (up S 33 (ix (S 4 0)) a0) 34 (ix ((up S 33 (ix (S 4 0)) a0) 4 0)) a1) 35 (ix ((up (up S 33 (ix (S 4 0)) a0) 34 (ix ((up S 33 (ix (S 4 0)) a0) 4 0)) a1) 4 0)) a2) 4 0) + ((1 : Int32)))) 4 0) - ((1 : Int32)), up (up (up (up S 33 (ix (S 4 0)) a0) 34 (ix ((up S 33 (ix (S 4 0)) a0) 4 0)) a1) 35 (ix ((up (up S 33 (ix (S 4 0)) a0) 34 (ix ((up S 33 (ix (S 4 0)) a0) 4 0)) a1) 4 0)) a2) 4 0 (((up (up (up S 33 (ix (S 4 0)) a0) 34 (ix ((up S 33 (ix (S 4 0)) a0) 4 0)) a1) 35 (ix ((up (up S 33 (ix (S 4 0)) a0) 34 (ix ((up S 33 (ix (S 4 0)) a0) 4 0)) a1) 4 0)) a2) 4 0) + ((1 : Int32))))) else (some ((-4 : Int32), S)))
set_option maxHeartbeats 4000000 in
set_option maxRecDepth 100000 in
theorem w_f_X3_add {G : Geo} {p : Program} {l : Launch} {e : Env} {s : State} {m : MethodId} {args : Array Value} {below : List Frame} {meth : Method} {c : Code} {A : Nat → Prop} {H0 : Heap} {Q : State → Prop} (C : Cx G RX3 cX3_add 4 p s m args c) {S : St} {a0 : Int32} {a1 : Int32} {a2 : Int32} {o : Int32 × St} (h : f_X3_add S a0 a1 a2 = some o) (K : KI 37 eX G A H0 cX3_add p l e 0 s m args below meth c Q ((o).1) ((o).2)) : ∀ (H : Heap) (locs : List Loc) (ls : Array Slot), HX G A H0 S H locs → lv_has ls 4 [(0, .ref (adr G 4)), (1, .int a0), (2, .int a1), (3, .int a2)] → W p l e (rmK 0) s m args below meth c H locs 0 0 Q (F0 m 0 ls []) := by
  obtain ⟨hx, hb, -⟩ := id C
  intro H locs ls hW hl
  unfold f_X3_add at h
  refine lv_aload_n hx hb dX3_add_0 rfl (lv_at hl 0 rfl) ?_
  refine gf_RX3_21 C hW dX3_add_1 ?_
  refine lv_if_lt (tgt := 16) hx hb dX3_add_4 (by decide) (fun b4 => ?_) (fun b4 => ?_)
  · have h := it_t b4 h
    refine lv_bipush (v := (-4)) hx hb dX3_add_16 (by decide) ?_
    obtain rfl := Option.some.inj h
    exact K _ _ _ _ dX3_add_18 hW
  · have h := it_f b4 h
    refine lv_aload_n hx hb dX3_add_7 rfl (lv_at hl 0 rfl) ?_
    refine gf_RX3_21 C hW dX3_add_8 ?_
    refine lv_bipush (v := 8) hx hb dX3_add_11 (by decide) ?_
    refine lv_icmp_lt (tgt := 19) hx hb dX3_add_13 (by decide) (fun b13 => ?_) (fun b13 => ?_)
    · have h := it_t b13 h
      refine lv_aload_n hx hb dX3_add_19 rfl (lv_at hl 0 rfl) ?_
      refine gf_RX3_9 C hW dX3_add_20 ?_
      refine lv_aload_n hx hb dX3_add_23 rfl (lv_at hl 0 rfl) ?_
      refine gf_RX3_21 C hW dX3_add_24 ?_
      refine lv_iload_n hx hb dX3_add_27 rfl (lv_at hl 1 rfl) ?_
      obtain ⟨g28, h⟩ := ck_some h
      refine x_iast C hW (k := 33) (n := 8) (by decide) (fun _ => rfl) g28 dX3_add_28 (fun H locs hW => ?_)
      refine lv_aload_n hx hb dX3_add_29 rfl (lv_at hl 0 rfl) ?_
      refine gf_RX3_15 C hW dX3_add_30 ?_
      refine lv_aload_n hx hb dX3_add_33 rfl (lv_at hl 0 rfl) ?_
      refine gf_RX3_21 C hW dX3_add_34 ?_
      refine lv_iload_n hx hb dX3_add_37 rfl (lv_at hl 2 rfl) ?_
      obtain ⟨g38, h⟩ := ck_some h
      refine x_iast C hW (k := 34) (n := 8) (by decide) (fun _ => rfl) g38 dX3_add_38 (fun H locs hW => ?_)
      refine lv_aload_n hx hb dX3_add_39 rfl (lv_at hl 0 rfl) ?_
      refine gf_RX3_18 C hW dX3_add_40 ?_
      refine lv_aload_n hx hb dX3_add_43 rfl (lv_at hl 0 rfl) ?_
      refine gf_RX3_21 C hW dX3_add_44 ?_
      refine lv_iload_n hx hb dX3_add_47 rfl (lv_at hl 3 rfl) ?_
      obtain ⟨g48, h⟩ := ck_some h
      refine x_iast C hW (k := 35) (n := 8) (by decide) (fun _ => rfl) g48 dX3_add_48 (fun H locs hW => ?_)
      refine lv_aload_n hx hb dX3_add_49 rfl (lv_at hl 0 rfl) ?_
      refine lv_dup hx hb dX3_add_50 rfl ?_
      refine gf_RX3_21 C hW dX3_add_51 ?_
      refine lv_iconst (v := 1) hx hb dX3_add_54 (by decide) ?_
      refine lv_iadd hx hb dX3_add_55 ?_
      refine pf_RX3_21 C hW dX3_add_56 (fun H locs hW => ?_)
      refine lv_aload_n hx hb dX3_add_59 rfl (lv_at hl 0 rfl) ?_
      refine gf_RX3_21 C hW dX3_add_60 ?_
      refine lv_iconst (v := 1) hx hb dX3_add_63 (by decide) ?_
      refine lv_isub hx hb dX3_add_64 ?_
      obtain rfl := Option.some.inj h
      exact K _ _ _ _ dX3_add_65 hW
    · have h := it_f b13 h
      refine lv_bipush (v := (-4)) hx hb dX3_add_16 (by decide) ?_
      obtain rfl := Option.some.inj h
      exact K _ _ _ _ dX3_add_18 hW
set_option maxRecDepth 100000 in
theorem c_X3_add (l : Launch) (G : Geo) {S : St} {a0 : Int32} {a1 : Int32} {a2 : Int32} {o : Int32 × St} (h : f_X3_add S a0 a1 a2 = some o) : MI 37 eX G l yX3_add cX3_add 4 (some .int) 0 [.ref (adr G 4), .int a0, .int a1, .int a2] S o.1 o.2 :=
  mI_of (by decide +kernel) (Nat.le_of_ble_eq_true rfl) (fun p e s m below meth c A H0 Q C K => w_f_X3_add C h K)
def i_X3_areSo_2 (S : St) (x2 : Int32) : Option ((Int32) ⊕ ((Int32) ⊕ (Bool))) :=
  if (S 4 0) ≤ x2 then (some (.inr (.inl x2))) else (ck (okx x2 8) <| ck (okx x2 8) <| bd (f_X1_stepOf S (S 33 (ix x2)) (S 34 (ix x2))) fun r23 => ck (okx x2 8) <| if r23 = (S 35 (ix x2)) then (some (.inl (x2 + (1 : Int32)))) else (some (.inr (.inr false))))
set_option maxHeartbeats 4000000 in
set_option maxRecDepth 100000 in
theorem w_i_X3_areSo_2 {G : Geo} {p : Program} {l : Launch} {e : Env} {s : State} {m : MethodId} {args : Array Value} {below : List Frame} {meth : Method} {c : Code} {A : Nat → Prop} {H0 : Heap} {Q : State → Prop} (C : Cx G RX3 cX3_areSo 3 p s m args c) {S : St} {x2 : Int32} {o : (Int32) ⊕ ((Int32) ⊕ (Bool))} (h : i_X3_areSo_2 S x2 = some o) (Kn : ∀ q, o = .inl q → ∀ (H : Heap) (locs : List Loc) (ls : Array Slot), HX G A H0 S H locs → lv_has ls 3 [(0, .ref (adr G 4)), (1, .ref (adr G 1)), (2, .int q)] → W p l e (rmK 3) s m args below meth c H locs 0 0 Q (F0 m 2 ls [])) (Kt : ∀ u, o = .inr u → (∀ q, u = .inl q → ∀ (H : Heap) (locs : List Loc) (ls : Array Slot), HX G A H0 S H locs → lv_has ls 3 [] → W p l e (rmK 3) s m args below meth c H locs 0 0 Q (F0 m 43 ls [])) ∧ (∀ r, u = .inr r → KI 37 eX G A H0 cX3_areSo p l e 3 s m args below meth c Q (bi r) S)) : ∀ (H : Heap) (locs : List Loc) (ls : Array Slot), HX G A H0 S H locs → lv_has ls 3 [(0, .ref (adr G 4)), (1, .ref (adr G 1)), (2, .int x2)] → W p l e (rmK 3) s m args below meth c H locs 0 0 Q (F0 m 2 ls []) := by
  obtain ⟨hx, hb, -⟩ := id C
  intro H locs ls hW hl
  unfold i_X3_areSo_2 at h
  refine lv_iload_n hx hb dX3_areSo_2 rfl (lv_at hl 2 rfl) ?_
  refine lv_aload_n hx hb dX3_areSo_3 rfl (lv_at hl 0 rfl) ?_
  refine gf_RX3_21 C hW dX3_areSo_4 ?_
  refine lv_icmp_ge (tgt := 43) hx hb dX3_areSo_7 (by decide) (fun b7 => ?_) (fun b7 => ?_)
  · have h := it_t b7 h
    obtain rfl := Option.some.inj h
    exact (Kt _ rfl).1 _ rfl _ _ _ hW (lv_sub hl [] rfl)
  · have h := it_f b7 h
    refine lv_aload_n hx hb dX3_areSo_10 rfl (lv_at hl 1 rfl) ?_
    refine lv_aload_n hx hb dX3_areSo_11 rfl (lv_at hl 0 rfl) ?_
    refine gf_RX3_9 C hW dX3_areSo_12 ?_
    refine lv_iload_n hx hb dX3_areSo_15 rfl (lv_at hl 2 rfl) ?_
    obtain ⟨g16, h⟩ := ck_some h
    refine x_iald C hW (k := 33) (n := 8) (by decide) (fun _ => rfl) g16 dX3_areSo_16 ?_
    refine lv_aload_n hx hb dX3_areSo_17 rfl (lv_at hl 0 rfl) ?_
    refine gf_RX3_15 C hW dX3_areSo_18 ?_
    refine lv_iload_n hx hb dX3_areSo_21 rfl (lv_at hl 2 rfl) ?_
    obtain ⟨g22, h⟩ := ck_some h
    refine x_iald C hW (k := 34) (n := 8) (by decide) (fun _ => rfl) g22 dX3_areSo_22 ?_
    obtain ⟨r23, r23h, h⟩ := bd_some h
    refine x_backI hW (x_runV (As := [.int (S 33 (ix x2)), .int (S 34 (ix x2))]) (rest := []) C hW (c_X1_stepOf l G r23h H.size) cv_RX3_25 rv_X1 hl.1 rfl rfl ⟨by decide, by decide⟩ (Nat.le_of_ble_eq_true rfl) ⟨Nat.zero_le _, Nat.zero_le _⟩ dX3_areSo_23) (fun H locs hW => ?_)
    refine lv_aload_n hx hb dX3_areSo_26 rfl (lv_at hl 0 rfl) ?_
    refine gf_RX3_18 C hW dX3_areSo_27 ?_
    refine lv_iload_n hx hb dX3_areSo_30 rfl (lv_at hl 2 rfl) ?_
    obtain ⟨g31, h⟩ := ck_some h
    refine x_iald C hW (k := 35) (n := 8) (by decide) (fun _ => rfl) g31 dX3_areSo_31 ?_
    refine lv_icmp_eq (tgt := 37) hx hb dX3_areSo_32 (by decide) (fun b32 => ?_) (fun b32 => ?_)
    · have h := it_t b32 h
      refine lv_iinc (v := (x2 + (1 : Int32))) (lv' := [(2, .int (x2 + (1 : Int32))), (0, .ref (adr G 4)), (1, .ref (adr G 1))]) hx hb dX3_areSo_37 hl (k := 2) rfl rfl (by decide) rfl (fun ls hl => ?_)
      refine lv_goto (tgt := 2) hx hb dX3_areSo_40 (by decide) ?_
      obtain rfl := Option.some.inj h
      exact Kn _ rfl _ _ _ hW (lv_sub hl [1, 2, 0] rfl)
    · have h := it_f b32 h
      refine lv_iconst (v := 0) hx hb dX3_areSo_35 (by decide) ?_
      obtain rfl := Option.some.inj h
      exact (Kt _ rfl).2 _ rfl _ _ _ _ dX3_areSo_36 hW
set_option maxHeartbeats 4000000 in
set_option maxRecDepth 100000 in
theorem l_i_X3_areSo_2 {G : Geo} {p : Program} {l : Launch} {e : Env} {s : State} {m : MethodId} {args : Array Value} {below : List Frame} {meth : Method} {c : Code} {A : Nat → Prop} {H0 : Heap} {Q : State → Prop} (C : Cx G RX3 cX3_areSo 3 p s m args c) {S : St}  {n : Nat} {q0 : Int32} {u : (Int32) ⊕ (Bool)} (hq : iter (fun q : Int32 => i_X3_areSo_2 S q) n q0 = some u) (Kt : (∀ q, u = .inl q → ∀ (H : Heap) (locs : List Loc) (ls : Array Slot), HX G A H0 S H locs → lv_has ls 3 [] → W p l e (rmK 3) s m args below meth c H locs 0 0 Q (F0 m 43 ls [])) ∧ (∀ r, u = .inr r → KI 37 eX G A H0 cX3_areSo p l e 3 s m args below meth c Q (bi r) S)) : (fun q : Int32 => ∀ (H : Heap) (locs : List Loc) (ls : Array Slot), HX G A H0 S H locs → lv_has ls 3 [(0, .ref (adr G 4)), (1, .ref (adr G 1)), (2, .int q)] → W p l e (rmK 3) s m args below meth c H locs 0 0 Q (F0 m 2 ls [])) q0 :=
  iter_W (P := fun q : Int32 => ∀ (H : Heap) (locs : List Loc) (ls : Array Slot), HX G A H0 S H locs → lv_has ls 3 [(0, .ref (adr G 4)), (1, .ref (adr G 1)), (2, .int q)] → W p l e (rmK 3) s m args below meth c H locs 0 0 Q (F0 m 2 ls [])) (K := fun u => (∀ q, u = .inl q → ∀ (H : Heap) (locs : List Loc) (ls : Array Slot), HX G A H0 S H locs → lv_has ls 3 [] → W p l e (rmK 3) s m args below meth c H locs 0 0 Q (F0 m 43 ls [])) ∧ (∀ r, u = .inr r → KI 37 eX G A H0 cX3_areSo p l e 3 s m args below meth c Q (bi r) S)) (fun q o hit Kn Kt => w_i_X3_areSo_2 C  hit Kn Kt) n q0 u hq Kt
def f_X3_areSo (S : St) : Option (Bool) :=
  bd (iter (fun q => i_X3_areSo_2 S q) BIG ((0 : Int32))) fun u2 => sm u2 (fun q2 => some true) fun w2 => some w2
set_option maxHeartbeats 4000000 in
set_option maxRecDepth 100000 in
theorem w_f_X3_areSo {G : Geo} {p : Program} {l : Launch} {e : Env} {s : State} {m : MethodId} {args : Array Value} {below : List Frame} {meth : Method} {c : Code} {A : Nat → Prop} {H0 : Heap} {Q : State → Prop} (C : Cx G RX3 cX3_areSo 3 p s m args c) {S : St}  {o : Bool} (h : f_X3_areSo S = some o) (K : KI 37 eX G A H0 cX3_areSo p l e 3 s m args below meth c Q (bi o) S) : ∀ (H : Heap) (locs : List Loc) (ls : Array Slot), HX G A H0 S H locs → lv_has ls 3 [(0, .ref (adr G 4)), (1, .ref (adr G 1))] → W p l e (rmK 3) s m args below meth c H locs 0 0 Q (F0 m 0 ls []) := by
  obtain ⟨hx, hb, -⟩ := id C
  intro H locs ls hW hl
  unfold f_X3_areSo at h
  refine lv_iconst (v := 0) hx hb dX3_areSo_0 (by decide) ?_
  refine lv_istore_n (lv' := [(2, .int ((0 : Int32))), (0, .ref (adr G 4)), (1, .ref (adr G 1))]) hx hb dX3_areSo_1 rfl hl (by decide) rfl (fun ls hl => ?_)
  obtain ⟨u2, u2h, h⟩ := bd_some h
  refine l_i_X3_areSo_2 C  u2h ⟨?_, ?_⟩ _ _ _ hW (lv_sub hl [1, 2, 0] rfl)
  · intro q2 hu; subst hu; have h := sm_l h
    intro H locs ls hW hl
    refine lv_iconst (v := 1) hx hb dX3_areSo_43 (by decide) ?_
    obtain rfl := Option.some.inj h
    exact K _ _ _ _ dX3_areSo_44 hW
  · intro w2 hu; subst hu; have h := sm_r h
    obtain rfl := Option.some.inj h
    exact K
set_option maxRecDepth 100000 in
theorem c_X3_areSo (l : Launch) (G : Geo) {S : St}  {o : Bool} (h : f_X3_areSo S = some o) : MI 37 eX G l yX3_areSo cX3_areSo 3 (some .boolean) 3 [.ref (adr G 4), .ref (adr G 1)] S (bi o) S :=
  mZ_of (by decide +kernel) (Nat.le_of_ble_eq_true rfl) (fun p e s m below meth c A H0 Q C K => w_f_X3_areSo C h K)
