def f_J9_floorMod_7cf53 (a0 : Int32) (a1 : Int32) : Option (Int32) :=
  ck (¬ a1 = 0) <| if 0 ≤ (a0 ^^^ a1) then (some (rem32 a0 a1)) else (if (rem32 a0 a1) = 0 then (some (rem32 a0 a1)) else (some ((rem32 a0 a1) + a1)))
set_option maxHeartbeats 4000000 in
set_option maxRecDepth 100000 in
theorem w_f_J9_floorMod_7cf53 {G : Geo} {p : Program} {l : Launch} {e : Env} {s : State} {m : MethodId} {args : Array Value} {below : List Frame} {meth : Method} {c : Code} {A : Nat → Prop} {H0 : Heap} {Q : State → Prop} (C : Cx G RJ9 cJ9_floorMod_7cf53 3 p s m args c) {S : St} {a0 : Int32} {a1 : Int32} {o : Int32} (h : f_J9_floorMod_7cf53 a0 a1 = some o) (K : KI 37 eX G A H0 cJ9_floorMod_7cf53 p l e 0 s m args below meth c Q o S) : ∀ (H : Heap) (locs : List Loc) (ls : Array Slot), HX G A H0 S H locs → lv_has ls 3 [(0, .int a0), (1, .int a1)] → W p l e (rmK 0) s m args below meth c H locs 0 0 Q (F0 m 0 ls []) := by
  obtain ⟨hx, hb, -⟩ := id C
  intro H locs ls hW hl
  unfold f_J9_floorMod_7cf53 at h
  refine lv_iload_n hx hb dJ9_floorMod_7cf53_0 rfl (lv_at hl 0 rfl) ?_
  refine lv_iload_n hx hb dJ9_floorMod_7cf53_1 rfl (lv_at hl 1 rfl) ?_
  obtain ⟨g2, h⟩ := ck_some h
  refine lv_irem hx hb dJ9_floorMod_7cf53_2 g2 ?_
  refine lv_istore_n (lv' := [(2, .int (rem32 a0 a1)), (0, .int a0), (1, .int a1)]) hx hb dJ9_floorMod_7cf53_3 rfl hl (by decide) rfl (fun ls hl => ?_)
  refine lv_iload_n hx hb dJ9_floorMod_7cf53_4 rfl (lv_at hl 1 rfl) ?_
  refine lv_iload_n hx hb dJ9_floorMod_7cf53_5 rfl (lv_at hl 2 rfl) ?_
  refine lv_ixor hx hb dJ9_floorMod_7cf53_6 ?_
  refine lv_if_ge (tgt := 18) hx hb dJ9_floorMod_7cf53_7 (by decide) (fun b7 => ?_) (fun b7 => ?_)
  · have h := it_t b7 h
    refine lv_iload_n hx hb dJ9_floorMod_7cf53_18 rfl (lv_at hl 0 rfl) ?_
    obtain rfl := Option.some.inj h
    exact K _ _ _ _ dJ9_floorMod_7cf53_19 hW
  · have h := it_f b7 h
    refine lv_iload_n hx hb dJ9_floorMod_7cf53_10 rfl (lv_at hl 0 rfl) ?_
    refine lv_if_eq (tgt := 18) hx hb dJ9_floorMod_7cf53_11 (by decide) (fun b11 => ?_) (fun b11 => ?_)
    · have h := it_t b11 h
      refine lv_iload_n hx hb dJ9_floorMod_7cf53_18 rfl (lv_at hl 0 rfl) ?_
      obtain rfl := Option.some.inj h
      exact K _ _ _ _ dJ9_floorMod_7cf53_19 hW
    · have h := it_f b11 h
      refine lv_iload_n hx hb dJ9_floorMod_7cf53_14 rfl (lv_at hl 0 rfl) ?_
      refine lv_iload_n hx hb dJ9_floorMod_7cf53_15 rfl (lv_at hl 2 rfl) ?_
      refine lv_iadd hx hb dJ9_floorMod_7cf53_16 ?_
      obtain rfl := Option.some.inj h
      exact K _ _ _ _ dJ9_floorMod_7cf53_17 hW
set_option maxRecDepth 100000 in
theorem c_J9_floorMod_7cf53 (l : Launch) (G : Geo) {S : St} {a0 : Int32} {a1 : Int32} {o : Int32} (h : f_J9_floorMod_7cf53 a0 a1 = some o) : MI 37 eX G l yJ9_floorMod_7cf53 cJ9_floorMod_7cf53 3 (some .int) 0 [.int a0, .int a1] S o S :=
  mI_of (by decide +kernel) (Nat.le_of_ble_eq_true rfl) (fun p e s m below meth c A H0 Q C K => w_f_J9_floorMod_7cf53 C h K)
def f_J9_max_7cf53 (a0 : Int32) (a1 : Int32) : Option (Int32) :=
  if a0 < a1 then (some a1) else (some a0)
set_option maxHeartbeats 4000000 in
set_option maxRecDepth 100000 in
theorem w_f_J9_max_7cf53 {G : Geo} {p : Program} {l : Launch} {e : Env} {s : State} {m : MethodId} {args : Array Value} {below : List Frame} {meth : Method} {c : Code} {A : Nat → Prop} {H0 : Heap} {Q : State → Prop} (C : Cx G RJ9 cJ9_max_7cf53 2 p s m args c) {S : St} {a0 : Int32} {a1 : Int32} {o : Int32} (h : f_J9_max_7cf53 a0 a1 = some o) (K : KI 37 eX G A H0 cJ9_max_7cf53 p l e 0 s m args below meth c Q o S) : ∀ (H : Heap) (locs : List Loc) (ls : Array Slot), HX G A H0 S H locs → lv_has ls 2 [(0, .int a0), (1, .int a1)] → W p l e (rmK 0) s m args below meth c H locs 0 0 Q (F0 m 0 ls []) := by
  obtain ⟨hx, hb, -⟩ := id C
  intro H locs ls hW hl
  unfold f_J9_max_7cf53 at h
  refine lv_iload_n hx hb dJ9_max_7cf53_0 rfl (lv_at hl 0 rfl) ?_
  refine lv_iload_n hx hb dJ9_max_7cf53_1 rfl (lv_at hl 1 rfl) ?_
  refine lv_icmp_lt (tgt := 9) hx hb dJ9_max_7cf53_2 (by decide) (fun b2 => ?_) (fun b2 => ?_)
  · have h := it_t b2 h
    refine lv_iload_n hx hb dJ9_max_7cf53_9 rfl (lv_at hl 1 rfl) ?_
    obtain rfl := Option.some.inj h
    exact K _ _ _ _ dJ9_max_7cf53_10 hW
  · have h := it_f b2 h
    refine lv_iload_n hx hb dJ9_max_7cf53_5 rfl (lv_at hl 0 rfl) ?_
    refine lv_goto (tgt := 10) hx hb dJ9_max_7cf53_6 (by decide) ?_
    obtain rfl := Option.some.inj h
    exact K _ _ _ _ dJ9_max_7cf53_10 hW
set_option maxRecDepth 100000 in
theorem c_J9_max_7cf53 (l : Launch) (G : Geo) {S : St} {a0 : Int32} {a1 : Int32} {o : Int32} (h : f_J9_max_7cf53 a0 a1 = some o) : MI 37 eX G l yJ9_max_7cf53 cJ9_max_7cf53 2 (some .int) 0 [.int a0, .int a1] S o S :=
  mI_of (by decide +kernel) (Nat.le_of_ble_eq_true rfl) (fun p e s m below meth c A H0 Q C K => w_f_J9_max_7cf53 C h K)
def f_J9_min_7cf53 (a0 : Int32) (a1 : Int32) : Option (Int32) :=
  if a1 < a0 then (some a1) else (some a0)
set_option maxHeartbeats 4000000 in
set_option maxRecDepth 100000 in
theorem w_f_J9_min_7cf53 {G : Geo} {p : Program} {l : Launch} {e : Env} {s : State} {m : MethodId} {args : Array Value} {below : List Frame} {meth : Method} {c : Code} {A : Nat → Prop} {H0 : Heap} {Q : State → Prop} (C : Cx G RJ9 cJ9_min_7cf53 2 p s m args c) {S : St} {a0 : Int32} {a1 : Int32} {o : Int32} (h : f_J9_min_7cf53 a0 a1 = some o) (K : KI 37 eX G A H0 cJ9_min_7cf53 p l e 0 s m args below meth c Q o S) : ∀ (H : Heap) (locs : List Loc) (ls : Array Slot), HX G A H0 S H locs → lv_has ls 2 [(0, .int a0), (1, .int a1)] → W p l e (rmK 0) s m args below meth c H locs 0 0 Q (F0 m 0 ls []) := by
  obtain ⟨hx, hb, -⟩ := id C
  intro H locs ls hW hl
  unfold f_J9_min_7cf53 at h
  refine lv_iload_n hx hb dJ9_min_7cf53_0 rfl (lv_at hl 0 rfl) ?_
  refine lv_iload_n hx hb dJ9_min_7cf53_1 rfl (lv_at hl 1 rfl) ?_
  refine lv_icmp_gt (tgt := 9) hx hb dJ9_min_7cf53_2 (by decide) (fun b2 => ?_) (fun b2 => ?_)
  · have h := it_t b2 h
    refine lv_iload_n hx hb dJ9_min_7cf53_9 rfl (lv_at hl 1 rfl) ?_
    obtain rfl := Option.some.inj h
    exact K _ _ _ _ dJ9_min_7cf53_10 hW
  · have h := it_f b2 h
    refine lv_iload_n hx hb dJ9_min_7cf53_5 rfl (lv_at hl 0 rfl) ?_
    refine lv_goto (tgt := 10) hx hb dJ9_min_7cf53_6 (by decide) ?_
    obtain rfl := Option.some.inj h
    exact K _ _ _ _ dJ9_min_7cf53_10 hW
set_option maxRecDepth 100000 in
theorem c_J9_min_7cf53 (l : Launch) (G : Geo) {S : St} {a0 : Int32} {a1 : Int32} {o : Int32} (h : f_J9_min_7cf53 a0 a1 = some o) : MI 37 eX G l yJ9_min_7cf53 cJ9_min_7cf53 2 (some .int) 0 [.int a0, .int a1] S o S :=
  mI_of (by decide +kernel) (Nat.le_of_ble_eq_true rfl) (fun p e s m below meth c A H0 Q C K => w_f_J9_min_7cf53 C h K)
def f_X4_hasCells (S : St) (k : Nat) (a0 : Int32) (a1 : Int32) : Option (Bool) :=
  ck (shX k) <| if a0 < 0 then (some false) else (if (S k 2) < a0 then (some false) else (if a1 < 0 then (some false) else (if ((S k 2) - a0) < a1 then (some false) else (some true))))
set_option maxHeartbeats 4000000 in
set_option maxRecDepth 100000 in
theorem w_f_X4_hasCells {G : Geo} {p : Program} {l : Launch} {e : Env} {s : State} {m : MethodId} {args : Array Value} {below : List Frame} {meth : Method} {c : Code} {A : Nat → Prop} {H0 : Heap} {Q : State → Prop} (C : Cx G RX4 cX4_hasCells 3 p s m args c) {S : St} {k : Nat} {a0 : Int32} {a1 : Int32} {o : Bool} (h : f_X4_hasCells S k a0 a1 = some o) (K : KI 37 eX G A H0 cX4_hasCells p l e 0 s m args below meth c Q (bi o) S) : ∀ (H : Heap) (locs : List Loc) (ls : Array Slot), HX G A H0 S H locs → lv_has ls 3 [(0, .ref (adr G k)), (1, .int a0), (2, .int a1)] → W p l e (rmK 0) s m args below meth c H locs 0 0 Q (F0 m 0 ls []) := by
  obtain ⟨hx, hb, -⟩ := id C
  intro H locs ls hW hl
  unfold f_X4_hasCells at h
  obtain ⟨hk, h⟩ := ck_some h
  refine lv_iload_n hx hb dX4_hasCells_0 rfl (lv_at hl 1 rfl) ?_
  refine lv_if_lt (tgt := 30) hx hb dX4_hasCells_1 (by decide) (fun b1 => ?_) (fun b1 => ?_)
  · have h := it_t b1 h
    refine lv_iconst (v := 0) hx hb dX4_hasCells_30 (by decide) ?_
    obtain rfl := Option.some.inj h
    exact K _ _ _ _ dX4_hasCells_31 hW
  · have h := it_f b1 h
    refine lv_iload_n hx hb dX4_hasCells_4 rfl (lv_at hl 1 rfl) ?_
    refine lv_aload_n hx hb dX4_hasCells_5 rfl (lv_at hl 0 rfl) ?_
    refine gf_RX4_15 C hW hk dX4_hasCells_6 ?_
    refine lv_icmp_gt (tgt := 30) hx hb dX4_hasCells_9 (by decide) (fun b9 => ?_) (fun b9 => ?_)
    · have h := it_t b9 h
      refine lv_iconst (v := 0) hx hb dX4_hasCells_30 (by decide) ?_
      obtain rfl := Option.some.inj h
      exact K _ _ _ _ dX4_hasCells_31 hW
    · have h := it_f b9 h
      refine lv_iload_n hx hb dX4_hasCells_12 rfl (lv_at hl 2 rfl) ?_
      refine lv_if_lt (tgt := 30) hx hb dX4_hasCells_13 (by decide) (fun b13 => ?_) (fun b13 => ?_)
      · have h := it_t b13 h
        refine lv_iconst (v := 0) hx hb dX4_hasCells_30 (by decide) ?_
        obtain rfl := Option.some.inj h
        exact K _ _ _ _ dX4_hasCells_31 hW
      · have h := it_f b13 h
        refine lv_iload_n hx hb dX4_hasCells_16 rfl (lv_at hl 2 rfl) ?_
        refine lv_aload_n hx hb dX4_hasCells_17 rfl (lv_at hl 0 rfl) ?_
        refine gf_RX4_15 C hW hk dX4_hasCells_18 ?_
        refine lv_iload_n hx hb dX4_hasCells_21 rfl (lv_at hl 1 rfl) ?_
        refine lv_isub hx hb dX4_hasCells_22 ?_
        refine lv_icmp_gt (tgt := 30) hx hb dX4_hasCells_23 (by decide) (fun b23 => ?_) (fun b23 => ?_)
        · have h := it_t b23 h
          refine lv_iconst (v := 0) hx hb dX4_hasCells_30 (by decide) ?_
          obtain rfl := Option.some.inj h
          exact K _ _ _ _ dX4_hasCells_31 hW
        · have h := it_f b23 h
          refine lv_iconst (v := 1) hx hb dX4_hasCells_26 (by decide) ?_
          refine lv_goto (tgt := 31) hx hb dX4_hasCells_27 (by decide) ?_
          obtain rfl := Option.some.inj h
          exact K _ _ _ _ dX4_hasCells_31 hW
set_option maxRecDepth 100000 in
theorem c_X4_hasCells (l : Launch) (G : Geo) {S : St} {k : Nat} {a0 : Int32} {a1 : Int32} {o : Bool} (h : f_X4_hasCells S k a0 a1 = some o) : MI 37 eX G l yX4_hasCells cX4_hasCells 3 (some .boolean) 0 [.ref (adr G k), .int a0, .int a1] S (bi o) S :=
  mZ_of (by decide +kernel) (Nat.le_of_ble_eq_true rfl) (fun p e s m below meth c A H0 Q C K => w_f_X4_hasCells C h K)
def f_X4_at (S : St) (k : Nat) (a0 : Int32) : Option (Int32) :=
  ck (shX k) <| bd (f_X4_hasCells S k a0 ((1 : Int32))) fun r3 => if r3 = false then (some ((0 : Int32))) else (ck (okx a0 60) <| some (S (k + 4) (ix a0)))
set_option maxHeartbeats 4000000 in
set_option maxRecDepth 100000 in
theorem w_f_X4_at {G : Geo} {p : Program} {l : Launch} {e : Env} {s : State} {m : MethodId} {args : Array Value} {below : List Frame} {meth : Method} {c : Code} {A : Nat → Prop} {H0 : Heap} {Q : State → Prop} (C : Cx G RX4 cX4_at 2 p s m args c) {S : St} {k : Nat} {a0 : Int32} {o : Int32} (h : f_X4_at S k a0 = some o) (K : KI 37 eX G A H0 cX4_at p l e 1 s m args below meth c Q o S) : ∀ (H : Heap) (locs : List Loc) (ls : Array Slot), HX G A H0 S H locs → lv_has ls 2 [(0, .ref (adr G k)), (1, .int a0)] → W p l e (rmK 1) s m args below meth c H locs 0 0 Q (F0 m 0 ls []) := by
  obtain ⟨hx, hb, -⟩ := id C
  intro H locs ls hW hl
  unfold f_X4_at at h
  obtain ⟨hk, h⟩ := ck_some h
  refine lv_aload_n hx hb dX4_at_0 rfl (lv_at hl 0 rfl) ?_
  refine lv_iload_n hx hb dX4_at_1 rfl (lv_at hl 1 rfl) ?_
  refine lv_iconst (v := 1) hx hb dX4_at_2 (by decide) ?_
  obtain ⟨r3, r3h, h⟩ := bd_some h
  refine x_backI hW (x_runV (As := [.int a0, .int ((1 : Int32))]) (rest := []) C hW (c_X4_hasCells l G r3h H.size) cv_RX4_39 (rv_X4 hk) hl.1 rfl rfl ⟨by decide, by decide⟩ (Nat.le_of_ble_eq_true rfl) ⟨Nat.zero_le _, Nat.zero_le _⟩ dX4_at_3) (fun H locs hW => ?_)
  refine z_if_eq (tgt := 18) hx hb dX4_at_6 (by decide) (fun b6 => ?_) (fun b6 => ?_)
  · have h := it_t b6 h
    refine lv_iconst (v := 0) hx hb dX4_at_18 (by decide) ?_
    obtain rfl := Option.some.inj h
    exact K _ _ _ _ dX4_at_19 hW
  · have h := it_f b6 h
    refine lv_aload_n hx hb dX4_at_9 rfl (lv_at hl 0 rfl) ?_
    refine gf_RX4_9 C hW hk dX4_at_10 ?_
    refine lv_iload_n hx hb dX4_at_13 rfl (lv_at hl 1 rfl) ?_
    obtain ⟨g14, h⟩ := ck_some h
    refine x_iald C hW (k := k + 4) (n := 60) (sh_ar hk).2 (eX_cells hk) g14 dX4_at_14 ?_
    refine lv_goto (tgt := 19) hx hb dX4_at_15 (by decide) ?_
    obtain rfl := Option.some.inj h
    exact K _ _ _ _ dX4_at_19 hW
set_option maxRecDepth 100000 in
theorem c_X4_at (l : Launch) (G : Geo) {S : St} {k : Nat} {a0 : Int32} {o : Int32} (h : f_X4_at S k a0 = some o) : MI 37 eX G l yX4_at cX4_at 2 (some .int) 1 [.ref (adr G k), .int a0] S o S :=
  mI_of (by decide +kernel) (Nat.le_of_ble_eq_true rfl) (fun p e s m below meth c A H0 Q C K => w_f_X4_at C h K)
def f_X6_wrapped (a0 : Int32) (a1 : Int32) : Option (Int32) :=
  if ((1 : Int32)) ≤ a1 then (bd (f_J9_floorMod_7cf53 a0 a1) fun r11 => some r11) else (some ((0 : Int32)))
set_option maxHeartbeats 4000000 in
set_option maxRecDepth 100000 in
theorem w_f_X6_wrapped {G : Geo} {p : Program} {l : Launch} {e : Env} {s : State} {m : MethodId} {args : Array Value} {below : List Frame} {meth : Method} {c : Code} {A : Nat → Prop} {H0 : Heap} {Q : State → Prop} (C : Cx G RX6 cX6_wrapped 2 p s m args c) {S : St} {a0 : Int32} {a1 : Int32} {o : Int32} (h : f_X6_wrapped a0 a1 = some o) (K : KI 37 eX G A H0 cX6_wrapped p l e 1 s m args below meth c Q o S) : ∀ (H : Heap) (locs : List Loc) (ls : Array Slot), HX G A H0 S H locs → lv_has ls 2 [(0, .int a0), (1, .int a1)] → W p l e (rmK 1) s m args below meth c H locs 0 0 Q (F0 m 0 ls []) := by
  obtain ⟨hx, hb, -⟩ := id C
  intro H locs ls hW hl
  unfold f_X6_wrapped at h
  refine lv_iload_n hx hb dX6_wrapped_0 rfl (lv_at hl 1 rfl) ?_
  refine lv_iconst (v := 1) hx hb dX6_wrapped_1 (by decide) ?_
  refine lv_icmp_ge (tgt := 9) hx hb dX6_wrapped_2 (by decide) (fun b2 => ?_) (fun b2 => ?_)
  · have h := it_t b2 h
    refine lv_iload_n hx hb dX6_wrapped_9 rfl (lv_at hl 0 rfl) ?_
    refine lv_iload_n hx hb dX6_wrapped_10 rfl (lv_at hl 1 rfl) ?_
    obtain ⟨r11, r11h, h⟩ := bd_some h
    refine x_backI hW (x_runS (As := [.int a0, .int a1]) (rest := []) C hW (c_J9_floorMod_7cf53 l G (S := S) r11h H.size) cs_RX6_287 hl.1 rfl rfl ⟨by decide, by decide⟩ (Nat.le_of_ble_eq_true rfl) ⟨Nat.zero_le _, Nat.zero_le _⟩ dX6_wrapped_11) (fun H locs hW => ?_)
    obtain rfl := Option.some.inj h
    exact K _ _ _ _ dX6_wrapped_14 hW
  · have h := it_f b2 h
    refine lv_iconst (v := 0) hx hb dX6_wrapped_5 (by decide) ?_
    refine lv_goto (tgt := 14) hx hb dX6_wrapped_6 (by decide) ?_
    obtain rfl := Option.some.inj h
    exact K _ _ _ _ dX6_wrapped_14 hW
set_option maxRecDepth 100000 in
theorem c_X6_wrapped (l : Launch) (G : Geo) {S : St} {a0 : Int32} {a1 : Int32} {o : Int32} (h : f_X6_wrapped a0 a1 = some o) : MI 37 eX G l yX6_wrapped cX6_wrapped 2 (some .int) 1 [.int a0, .int a1] S o S :=
  mI_of (by decide +kernel) (Nat.le_of_ble_eq_true rfl) (fun p e s m below meth c A H0 Q C K => w_f_X6_wrapped C h K)
def i_X4_begin_21 (S : St) (x0 : Nat) (x3 : Int32) : Option ((St × Int32) ⊕ (St × Int32)) :=
  if (S x0 2) ≤ x3 then (some (.inr (S, x3))) else (ck (okx x3 60) <| some (.inl (up S (x0 + 4) (ix x3) ((0 : Int32)), x3 + (1 : Int32))))
set_option maxHeartbeats 4000000 in
set_option maxRecDepth 100000 in
theorem w_i_X4_begin_21 {G : Geo} {p : Program} {l : Launch} {e : Env} {s : State} {m : MethodId} {args : Array Value} {below : List Frame} {meth : Method} {c : Code} {A : Nat → Prop} {H0 : Heap} {Q : State → Prop} (C : Cx G RX4 cX4_begin 4 p s m args c) {S : St} {x0 : Nat} {x3 : Int32} {o : (St × Int32) ⊕ (St × Int32)} (hx0 : shX x0) (h : i_X4_begin_21 S x0 x3 = some o) (Kn : ∀ q, o = .inl q → ∀ (H : Heap) (locs : List Loc) (ls : Array Slot), HX G A H0 q.1 H locs → lv_has ls 4 [(0, .ref (adr G x0)), (3, .int (q.2))] → W p l e (rmK 1) s m args below meth c H locs 0 0 Q (F0 m 21 ls [])) (Kt : ∀ q, o = .inr q → ∀ (H : Heap) (locs : List Loc) (ls : Array Slot), HX G A H0 q.1 H locs → lv_has ls 4 [] → W p l e (rmK 1) s m args below meth c H locs 0 0 Q (F0 m 42 ls [])) : ∀ (H : Heap) (locs : List Loc) (ls : Array Slot), HX G A H0 S H locs → lv_has ls 4 [(0, .ref (adr G x0)), (3, .int x3)] → W p l e (rmK 1) s m args below meth c H locs 0 0 Q (F0 m 21 ls []) := by
  obtain ⟨hx, hb, -⟩ := id C
  intro H locs ls hW hl
  unfold i_X4_begin_21 at h
  refine lv_iload_n hx hb dX4_begin_21 rfl (lv_at hl 1 rfl) ?_
  refine lv_aload_n hx hb dX4_begin_22 rfl (lv_at hl 0 rfl) ?_
  refine gf_RX4_15 C hW hx0 dX4_begin_23 ?_
  refine lv_icmp_ge (tgt := 42) hx hb dX4_begin_26 (by decide) (fun b26 => ?_) (fun b26 => ?_)
  · have h := it_t b26 h
    obtain rfl := Option.some.inj h
    exact Kt _ rfl _ _ _ hW (lv_sub hl [] rfl)
  · have h := it_f b26 h
    refine lv_aload_n hx hb dX4_begin_29 rfl (lv_at hl 0 rfl) ?_
    refine gf_RX4_9 C hW hx0 dX4_begin_30 ?_
    refine lv_iload_n hx hb dX4_begin_33 rfl (lv_at hl 1 rfl) ?_
    refine lv_iconst (v := 0) hx hb dX4_begin_34 (by decide) ?_
    obtain ⟨g35, h⟩ := ck_some h
    refine x_iast C hW (k := x0 + 4) (n := 60) (sh_ar hx0).2 (eX_cells hx0) g35 dX4_begin_35 (fun H locs hW => ?_)
    refine lv_iinc (v := (x3 + (1 : Int32))) (lv' := [(3, .int (x3 + (1 : Int32))), (0, .ref (adr G x0))]) hx hb dX4_begin_36 hl (k := 1) rfl rfl (by decide) rfl (fun ls hl => ?_)
    refine lv_goto (tgt := 21) hx hb dX4_begin_39 (by decide) ?_
    obtain rfl := Option.some.inj h
    exact Kn _ rfl _ _ _ hW (lv_sub hl [1, 0] rfl)
set_option maxHeartbeats 4000000 in
set_option maxRecDepth 100000 in
theorem l_i_X4_begin_21 {G : Geo} {p : Program} {l : Launch} {e : Env} {s : State} {m : MethodId} {args : Array Value} {below : List Frame} {meth : Method} {c : Code} {A : Nat → Prop} {H0 : Heap} {Q : State → Prop} (C : Cx G RX4 cX4_begin 4 p s m args c) {x0 : Nat} {n : Nat} {q0 : St × Int32} {u : St × Int32} (hx0 : shX x0) (hq : iter (fun q : St × Int32 => i_X4_begin_21 q.1 x0 q.2) n q0 = some u) (Kt : (fun q : St × Int32 => ∀ (H : Heap) (locs : List Loc) (ls : Array Slot), HX G A H0 q.1 H locs → lv_has ls 4 [] → W p l e (rmK 1) s m args below meth c H locs 0 0 Q (F0 m 42 ls [])) u) : (fun q : St × Int32 => ∀ (H : Heap) (locs : List Loc) (ls : Array Slot), HX G A H0 q.1 H locs → lv_has ls 4 [(0, .ref (adr G x0)), (3, .int (q.2))] → W p l e (rmK 1) s m args below meth c H locs 0 0 Q (F0 m 21 ls [])) q0 :=
  iter_W (P := fun q : St × Int32 => ∀ (H : Heap) (locs : List Loc) (ls : Array Slot), HX G A H0 q.1 H locs → lv_has ls 4 [(0, .ref (adr G x0)), (3, .int (q.2))] → W p l e (rmK 1) s m args below meth c H locs 0 0 Q (F0 m 21 ls [])) (K := fun q : St × Int32 => ∀ (H : Heap) (locs : List Loc) (ls : Array Slot), HX G A H0 q.1 H locs → lv_has ls 4 [] → W p l e (rmK 1) s m args below meth c H locs 0 0 Q (F0 m 42 ls [])) (fun q o hit Kn Kt => w_i_X4_begin_21 C hx0 hit Kn Kt) n q0 u hq Kt
def f_X4_begin (S : St) (k : Nat) (a0 : Int32) (a1 : Int32) : Option (St) :=
  ck (shX k) <| bd (f_J9_min_7cf53 a1 ((60 : Int32))) fun r10 => bd (f_J9_max_7cf53 ((0 : Int32)) r10) fun r13 => bd (iter (fun q => i_X4_begin_21 q.1 k q.2) BIG (up (up S k 0 a0) k 2 r13, (0 : Int32))) fun q21 => some q21.1
set_option maxHeartbeats 4000000 in
set_option maxRecDepth 100000 in
theorem w_f_X4_begin {G : Geo} {p : Program} {l : Launch} {e : Env} {s : State} {m : MethodId} {args : Array Value} {below : List Frame} {meth : Method} {c : Code} {A : Nat → Prop} {H0 : Heap} {Q : State → Prop} (C : Cx G RX4 cX4_begin 4 p s m args c) {S : St} {k : Nat} {a0 : Int32} {a1 : Int32} {o : St} (h : f_X4_begin S k a0 a1 = some o) (K : KV 37 eX G A H0 cX4_begin p l e 1 s m args below meth c Q o) : ∀ (H : Heap) (locs : List Loc) (ls : Array Slot), HX G A H0 S H locs → lv_has ls 4 [(0, .ref (adr G k)), (1, .int a0), (2, .int a1)] → W p l e (rmK 1) s m args below meth c H locs 0 0 Q (F0 m 0 ls []) := by
  obtain ⟨hx, hb, -⟩ := id C
  intro H locs ls hW hl
  unfold f_X4_begin at h
  obtain ⟨hk, h⟩ := ck_some h
  refine lv_aload_n hx hb dX4_begin_0 rfl (lv_at hl 0 rfl) ?_
  refine lv_iload_n hx hb dX4_begin_1 rfl (lv_at hl 1 rfl) ?_
  refine pf_RX4_19 C hW hk dX4_begin_2 (fun H locs hW => ?_)
  refine lv_aload_n hx hb dX4_begin_5 rfl (lv_at hl 0 rfl) ?_
  refine lv_iconst (v := 0) hx hb dX4_begin_6 (by decide) ?_
  refine lv_iload_n hx hb dX4_begin_7 rfl (lv_at hl 2 rfl) ?_
  refine lv_bipush (v := 60) hx hb dX4_begin_8 (by decide) ?_
  obtain ⟨r10, r10h, h⟩ := bd_some h
  refine x_backI hW (x_runS (As := [.int a1, .int ((60 : Int32))]) (rest := [.int ((0 : Int32)), .ref (adr G k)]) C hW (c_J9_min_7cf53 l G (S := up S k 0 a0) r10h H.size) cs_RX4_22 hl.1 rfl rfl ⟨by decide, by decide⟩ (Nat.le_of_ble_eq_true rfl) ⟨Nat.zero_le _, Nat.zero_le _⟩ dX4_begin_10) (fun H locs hW => ?_)
  obtain ⟨r13, r13h, h⟩ := bd_some h
  refine x_backI hW (x_runS (As := [.int ((0 : Int32)), .int r10]) (rest := [.ref (adr G k)]) C hW (c_J9_max_7cf53 l G (S := up S k 0 a0) r13h H.size) cs_RX4_28 hl.1 rfl rfl ⟨by decide, by decide⟩ (Nat.le_of_ble_eq_true rfl) ⟨Nat.zero_le _, Nat.zero_le _⟩ dX4_begin_13) (fun H locs hW => ?_)
  refine pf_RX4_15 C hW hk dX4_begin_16 (fun H locs hW => ?_)
  refine lv_iconst (v := 0) hx hb dX4_begin_19 (by decide) ?_
  refine lv_istore_n (lv' := [(3, .int ((0 : Int32))), (0, .ref (adr G k)), (1, .int a0), (2, .int a1)]) hx hb dX4_begin_20 rfl hl (by decide) rfl (fun ls hl => ?_)
  obtain ⟨q21, q21h, h⟩ := bd_some h
  refine l_i_X4_begin_21 C hk q21h ?_ _ _ _ hW (lv_sub hl [1, 0] rfl)
  intro H locs ls hW hl
  obtain rfl := Option.some.inj h
  exact K _ _ _ _ dX4_begin_42 hW
set_option maxRecDepth 100000 in
theorem c_X4_begin (l : Launch) (G : Geo) {S : St} {k : Nat} {a0 : Int32} {a1 : Int32} {o : St} (h : f_X4_begin S k a0 a1 = some o) : MV 37 eX G l yX4_begin cX4_begin 4 none 1 [.ref (adr G k), .int a0, .int a1] S o :=
  mV_of (by decide +kernel) (Nat.le_of_ble_eq_true rfl) (fun p e s m below meth c A H0 Q C K => w_f_X4_begin C h K)
def f_X4_cut (S : St) (k : Nat) (a0 : Int32) : Option (Int32) :=
  ck (shX k) <| if (S k 0) = 0 then (some a0.toInt8.toInt32) else if (S k 0) = 1 then (some a0.toInt16.toInt32) else (some a0)
set_option maxHeartbeats 4000000 in
set_option maxRecDepth 100000 in
theorem w_f_X4_cut {G : Geo} {p : Program} {l : Launch} {e : Env} {s : State} {m : MethodId} {args : Array Value} {below : List Frame} {meth : Method} {c : Code} {A : Nat → Prop} {H0 : Heap} {Q : State → Prop} (C : Cx G RX4 cX4_cut 2 p s m args c) {S : St} {k : Nat} {a0 : Int32} {o : Int32} (h : f_X4_cut S k a0 = some o) (K : KI 37 eX G A H0 cX4_cut p l e 0 s m args below meth c Q o S) : ∀ (H : Heap) (locs : List Loc) (ls : Array Slot), HX G A H0 S H locs → lv_has ls 2 [(0, .ref (adr G k)), (1, .int a0)] → W p l e (rmK 0) s m args below meth c H locs 0 0 Q (F0 m 0 ls []) := by
  obtain ⟨hx, hb, -⟩ := id C
  intro H locs ls hW hl
  unfold f_X4_cut at h
  obtain ⟨hk, h⟩ := ck_some h
  refine lv_aload_n hx hb dX4_cut_0 rfl (lv_at hl 0 rfl) ?_
  refine gf_RX4_19 C hW hk dX4_cut_1 ?_
  by_cases v4_0 : (S k 0) = 0
  · have h := it_t v4_0 h
    refine lv_lookup (off := 28) (tgt := 32) hx hb dX4_cut_4 (by decide) (by rw [v4_0]; rfl) (by decide) ?_
    refine lv_iload_n hx hb dX4_cut_32 rfl (lv_at hl 1 rfl) ?_
    refine lv_i2b hx hb dX4_cut_33 rfl ?_
    obtain rfl := Option.some.inj h
    exact K _ _ _ _ dX4_cut_34 hW
  · have h := it_f v4_0 h
    by_cases v4_1 : (S k 0) = 1
    · have h := it_t v4_1 h
      refine lv_lookup (off := 31) (tgt := 35) hx hb dX4_cut_4 (by decide) (by rw [v4_1]; rfl) (by decide) ?_
      refine lv_iload_n hx hb dX4_cut_35 rfl (lv_at hl 1 rfl) ?_
      refine lv_i2s hx hb dX4_cut_36 rfl ?_
      obtain rfl := Option.some.inj h
      exact K _ _ _ _ dX4_cut_37 hW
    · have h := it_f v4_1 h
      have w4_0 := ne_i 0 0 (by decide) v4_0
      have w4_1 := ne_i 1 1 (by decide) v4_1
      refine lv_lookup (off := 34) (tgt := 38) hx hb dX4_cut_4 (by decide) (by simp [Op.lookupswitch.offset, w4_0, Ne.symm w4_0, w4_1, Ne.symm w4_1]) (by decide) ?_
      refine lv_iload_n hx hb dX4_cut_38 rfl (lv_at hl 1 rfl) ?_
      obtain rfl := Option.some.inj h
      exact K _ _ _ _ dX4_cut_39 hW
set_option maxRecDepth 100000 in
theorem c_X4_cut (l : Launch) (G : Geo) {S : St} {k : Nat} {a0 : Int32} {o : Int32} (h : f_X4_cut S k a0 = some o) : MI 37 eX G l yX4_cut cX4_cut 2 (some .int) 0 [.ref (adr G k), .int a0] S o S :=
  mI_of (by decide +kernel) (Nat.le_of_ble_eq_true rfl) (fun p e s m below meth c A H0 Q C K => w_f_X4_cut C h K)
def f_X4_end (S : St) (k : Nat) : Option (St) :=
  ck (shX k) <| some (up S k 2 ((-1 : Int32)))
set_option maxHeartbeats 4000000 in
set_option maxRecDepth 100000 in
theorem w_f_X4_end {G : Geo} {p : Program} {l : Launch} {e : Env} {s : State} {m : MethodId} {args : Array Value} {below : List Frame} {meth : Method} {c : Code} {A : Nat → Prop} {H0 : Heap} {Q : State → Prop} (C : Cx G RX4 cX4_end 1 p s m args c) {S : St} {k : Nat} {o : St} (h : f_X4_end S k = some o) (K : KV 37 eX G A H0 cX4_end p l e 0 s m args below meth c Q o) : ∀ (H : Heap) (locs : List Loc) (ls : Array Slot), HX G A H0 S H locs → lv_has ls 1 [(0, .ref (adr G k))] → W p l e (rmK 0) s m args below meth c H locs 0 0 Q (F0 m 0 ls []) := by
  obtain ⟨hx, hb, -⟩ := id C
  intro H locs ls hW hl
  unfold f_X4_end at h
  obtain ⟨hk, h⟩ := ck_some h
  refine lv_aload_n hx hb dX4_end_0 rfl (lv_at hl 0 rfl) ?_
  refine lv_iconst (v := (-1)) hx hb dX4_end_1 (by decide) ?_
  refine pf_RX4_15 C hW hk dX4_end_2 (fun H locs hW => ?_)
  obtain rfl := Option.some.inj h
  exact K _ _ _ _ dX4_end_5 hW
set_option maxRecDepth 100000 in
theorem c_X4_end (l : Launch) (G : Geo) {S : St} {k : Nat} {o : St} (h : f_X4_end S k = some o) : MV 37 eX G l yX4_end cX4_end 1 none 0 [.ref (adr G k)] S o :=
  mV_of (by decide +kernel) (Nat.le_of_ble_eq_true rfl) (fun p e s m below meth c A H0 Q C K => w_f_X4_end C h K)
def f_X4_isNothing (S : St) (k : Nat) : Option (Bool) :=
  ck (shX k) <| if (S k 2) = ((-1 : Int32)) then (some true) else (some false)
set_option maxHeartbeats 4000000 in
set_option maxRecDepth 100000 in
theorem w_f_X4_isNothing {G : Geo} {p : Program} {l : Launch} {e : Env} {s : State} {m : MethodId} {args : Array Value} {below : List Frame} {meth : Method} {c : Code} {A : Nat → Prop} {H0 : Heap} {Q : State → Prop} (C : Cx G RX4 cX4_isNothing 1 p s m args c) {S : St} {k : Nat} {o : Bool} (h : f_X4_isNothing S k = some o) (K : KI 37 eX G A H0 cX4_isNothing p l e 0 s m args below meth c Q (bi o) S) : ∀ (H : Heap) (locs : List Loc) (ls : Array Slot), HX G A H0 S H locs → lv_has ls 1 [(0, .ref (adr G k))] → W p l e (rmK 0) s m args below meth c H locs 0 0 Q (F0 m 0 ls []) := by
  obtain ⟨hx, hb, -⟩ := id C
  intro H locs ls hW hl
  unfold f_X4_isNothing at h
  obtain ⟨hk, h⟩ := ck_some h
  refine lv_aload_n hx hb dX4_isNothing_0 rfl (lv_at hl 0 rfl) ?_
  refine gf_RX4_15 C hW hk dX4_isNothing_1 ?_
  refine lv_iconst (v := (-1)) hx hb dX4_isNothing_4 (by decide) ?_
  refine lv_icmp_ne (tgt := 12) hx hb dX4_isNothing_5 (by decide) (fun b5 => ?_) (fun b5 => ?_)
  · have h := it_f b5 h
    refine lv_iconst (v := 0) hx hb dX4_isNothing_12 (by decide) ?_
    obtain rfl := Option.some.inj h
    exact K _ _ _ _ dX4_isNothing_13 hW
  · have h := it_t b5 h
    refine lv_iconst (v := 1) hx hb dX4_isNothing_8 (by decide) ?_
    refine lv_goto (tgt := 13) hx hb dX4_isNothing_9 (by decide) ?_
    obtain rfl := Option.some.inj h
    exact K _ _ _ _ dX4_isNothing_13 hW
set_option maxRecDepth 100000 in
theorem c_X4_isNothing (l : Launch) (G : Geo) {S : St} {k : Nat} {o : Bool} (h : f_X4_isNothing S k = some o) : MI 37 eX G l yX4_isNothing cX4_isNothing 1 (some .boolean) 0 [.ref (adr G k)] S (bi o) S :=
  mZ_of (by decide +kernel) (Nat.le_of_ble_eq_true rfl) (fun p e s m below meth c A H0 Q C K => w_f_X4_isNothing C h K)
def f_X4_faultAs (S : St) (k : Nat) (a0 : Int32) : Option (Int32) :=
  ck (shX k) <| bd (f_X4_isNothing S k) fun r1 => if r1 = false then (if (S k 0) = a0 then (some ((0 : Int32))) else (some ((2 : Int32)))) else (some ((1 : Int32)))
set_option maxHeartbeats 4000000 in
set_option maxRecDepth 100000 in
theorem w_f_X4_faultAs {G : Geo} {p : Program} {l : Launch} {e : Env} {s : State} {m : MethodId} {args : Array Value} {below : List Frame} {meth : Method} {c : Code} {A : Nat → Prop} {H0 : Heap} {Q : State → Prop} (C : Cx G RX4 cX4_faultAs 2 p s m args c) {S : St} {k : Nat} {a0 : Int32} {o : Int32} (h : f_X4_faultAs S k a0 = some o) (K : KI 37 eX G A H0 cX4_faultAs p l e 1 s m args below meth c Q o S) : ∀ (H : Heap) (locs : List Loc) (ls : Array Slot), HX G A H0 S H locs → lv_has ls 2 [(0, .ref (adr G k)), (1, .int a0)] → W p l e (rmK 1) s m args below meth c H locs 0 0 Q (F0 m 0 ls []) := by
  obtain ⟨hx, hb, -⟩ := id C
  intro H locs ls hW hl
  unfold f_X4_faultAs at h
  obtain ⟨hk, h⟩ := ck_some h
  refine lv_aload_n hx hb dX4_faultAs_0 rfl (lv_at hl 0 rfl) ?_
  obtain ⟨r1, r1h, h⟩ := bd_some h
  refine x_backI hW (x_runV (As := []) (rest := []) C hW (c_X4_isNothing l G r1h H.size) cv_RX4_31 (rv_X4 hk) hl.1 rfl rfl ⟨by decide, by decide⟩ (Nat.le_of_ble_eq_true rfl) ⟨Nat.zero_le _, Nat.zero_le _⟩ dX4_faultAs_1) (fun H locs hW => ?_)
  refine z_if_eq (tgt := 9) hx hb dX4_faultAs_4 (by decide) (fun b4 => ?_) (fun b4 => ?_)
  · have h := it_t b4 h
    refine lv_aload_n hx hb dX4_faultAs_9 rfl (lv_at hl 0 rfl) ?_
    refine gf_RX4_19 C hW hk dX4_faultAs_10 ?_
    refine lv_iload_n hx hb dX4_faultAs_13 rfl (lv_at hl 1 rfl) ?_
    refine lv_icmp_ne (tgt := 21) hx hb dX4_faultAs_14 (by decide) (fun b14 => ?_) (fun b14 => ?_)
    · have h := it_f b14 h
      refine lv_iconst (v := 2) hx hb dX4_faultAs_21 (by decide) ?_
      obtain rfl := Option.some.inj h
      exact K _ _ _ _ dX4_faultAs_22 hW
    · have h := it_t b14 h
      refine lv_iconst (v := 0) hx hb dX4_faultAs_17 (by decide) ?_
      refine lv_goto (tgt := 22) hx hb dX4_faultAs_18 (by decide) ?_
      obtain rfl := Option.some.inj h
      exact K _ _ _ _ dX4_faultAs_22 hW
  · have h := it_f b4 h
    refine lv_iconst (v := 1) hx hb dX4_faultAs_7 (by decide) ?_
    obtain rfl := Option.some.inj h
    exact K _ _ _ _ dX4_faultAs_8 hW
set_option maxRecDepth 100000 in
theorem c_X4_faultAs (l : Launch) (G : Geo) {S : St} {k : Nat} {a0 : Int32} {o : Int32} (h : f_X4_faultAs S k a0 = some o) : MI 37 eX G l yX4_faultAs cX4_faultAs 2 (some .int) 1 [.ref (adr G k), .int a0] S o S :=
  mI_of (by decide +kernel) (Nat.le_of_ble_eq_true rfl) (fun p e s m below meth c A H0 Q C K => w_f_X4_faultAs C h K)
def f_X4_faultOfCells (S : St) (k : Nat) (a0 : Int32) (a1 : Int32) (a2 : Int32) : Option (Int32) :=
  ck (shX k) <| bd (f_X4_faultAs S k a0) fun r2 => if r2 = 0 then (bd (f_X4_hasCells S k a1 a2) fun r15 => if r15 = true then (some r2) else (some ((3 : Int32)))) else (some r2)
set_option maxHeartbeats 4000000 in
set_option maxRecDepth 100000 in
theorem w_f_X4_faultOfCells {G : Geo} {p : Program} {l : Launch} {e : Env} {s : State} {m : MethodId} {args : Array Value} {below : List Frame} {meth : Method} {c : Code} {A : Nat → Prop} {H0 : Heap} {Q : State → Prop} (C : Cx G RX4 cX4_faultOfCells 5 p s m args c) {S : St} {k : Nat} {a0 : Int32} {a1 : Int32} {a2 : Int32} {o : Int32} (h : f_X4_faultOfCells S k a0 a1 a2 = some o) (K : KI 37 eX G A H0 cX4_faultOfCells p l e 2 s m args below meth c Q o S) : ∀ (H : Heap) (locs : List Loc) (ls : Array Slot), HX G A H0 S H locs → lv_has ls 5 [(0, .ref (adr G k)), (1, .int a0), (2, .int a1), (3, .int a2)] → W p l e (rmK 2) s m args below meth c H locs 0 0 Q (F0 m 0 ls []) := by
  obtain ⟨hx, hb, -⟩ := id C
  intro H locs ls hW hl
  unfold f_X4_faultOfCells at h
  obtain ⟨hk, h⟩ := ck_some h
  refine lv_aload_n hx hb dX4_faultOfCells_0 rfl (lv_at hl 0 rfl) ?_
  refine lv_iload_n hx hb dX4_faultOfCells_1 rfl (lv_at hl 1 rfl) ?_
  obtain ⟨r2, r2h, h⟩ := bd_some h
  refine x_backI hW (x_runV (As := [.int a0]) (rest := []) C hW (c_X4_faultAs l G r2h H.size) cv_RX4_35 (rv_X4 hk) hl.1 rfl rfl ⟨by decide, by decide⟩ (Nat.le_of_ble_eq_true rfl) ⟨Nat.zero_le _, Nat.zero_le _⟩ dX4_faultOfCells_2) (fun H locs hW => ?_)
  refine lv_istore (lv' := [(4, .int r2), (0, .ref (adr G k)), (1, .int a0), (2, .int a1), (3, .int a2)]) hx hb dX4_faultOfCells_5 hl (by decide) rfl (fun ls hl => ?_)
  refine lv_iload hx hb dX4_faultOfCells_7 (lv_at hl 0 rfl) ?_
  refine lv_if_ne (tgt := 25) hx hb dX4_faultOfCells_9 (by decide) (fun b9 => ?_) (fun b9 => ?_)
  · have h := it_f b9 h
    refine lv_iload hx hb dX4_faultOfCells_25 (lv_at hl 0 rfl) ?_
    obtain rfl := Option.some.inj h
    exact K _ _ _ _ dX4_faultOfCells_27 hW
  · have h := it_t b9 h
    refine lv_aload_n hx hb dX4_faultOfCells_12 rfl (lv_at hl 1 rfl) ?_
    refine lv_iload_n hx hb dX4_faultOfCells_13 rfl (lv_at hl 3 rfl) ?_
    refine lv_iload_n hx hb dX4_faultOfCells_14 rfl (lv_at hl 4 rfl) ?_
    obtain ⟨r15, r15h, h⟩ := bd_some h
    refine x_backI hW (x_runV (As := [.int a1, .int a2]) (rest := []) C hW (c_X4_hasCells l G r15h H.size) cv_RX4_39 (rv_X4 hk) hl.1 rfl rfl ⟨by decide, by decide⟩ (Nat.le_of_ble_eq_true rfl) ⟨Nat.zero_le _, Nat.zero_le _⟩ dX4_faultOfCells_15) (fun H locs hW => ?_)
    refine z_if_ne (tgt := 25) hx hb dX4_faultOfCells_18 (by decide) (fun b18 => ?_) (fun b18 => ?_)
    · have h := it_t b18 h
      refine lv_iload hx hb dX4_faultOfCells_25 (lv_at hl 0 rfl) ?_
      obtain rfl := Option.some.inj h
      exact K _ _ _ _ dX4_faultOfCells_27 hW
    · have h := it_f b18 h
      refine lv_iconst (v := 3) hx hb dX4_faultOfCells_21 (by decide) ?_
      refine lv_goto (tgt := 27) hx hb dX4_faultOfCells_22 (by decide) ?_
      obtain rfl := Option.some.inj h
      exact K _ _ _ _ dX4_faultOfCells_27 hW
set_option maxRecDepth 100000 in
theorem c_X4_faultOfCells (l : Launch) (G : Geo) {S : St} {k : Nat} {a0 : Int32} {a1 : Int32} {a2 : Int32} {o : Int32} (h : f_X4_faultOfCells S k a0 a1 a2 = some o) : MI 37 eX G l yX4_faultOfCells cX4_faultOfCells 5 (some .int) 2 [.ref (adr G k), .int a0, .int a1, .int a2] S o S :=
  mI_of (by decide +kernel) (Nat.le_of_ble_eq_true rfl) (fun p e s m below meth c A H0 Q C K => w_f_X4_faultOfCells C h K)
def f_X4_set (S : St) (k : Nat) (a0 : Int32) (a1 : Int32) : Option (St) :=
  ck (shX k) <| bd (f_X4_hasCells S k a0 ((1 : Int32))) fun r3 => if r3 = false then (some S) else (bd (f_X4_cut S k a1) fun r16 => ck (okx a0 60) <| some (up S (k + 4) (ix a0) r16))
set_option maxHeartbeats 4000000 in
set_option maxRecDepth 100000 in
theorem w_f_X4_set {G : Geo} {p : Program} {l : Launch} {e : Env} {s : State} {m : MethodId} {args : Array Value} {below : List Frame} {meth : Method} {c : Code} {A : Nat → Prop} {H0 : Heap} {Q : State → Prop} (C : Cx G RX4 cX4_set 3 p s m args c) {S : St} {k : Nat} {a0 : Int32} {a1 : Int32} {o : St} (h : f_X4_set S k a0 a1 = some o) (K : KV 37 eX G A H0 cX4_set p l e 1 s m args below meth c Q o) : ∀ (H : Heap) (locs : List Loc) (ls : Array Slot), HX G A H0 S H locs → lv_has ls 3 [(0, .ref (adr G k)), (1, .int a0), (2, .int a1)] → W p l e (rmK 1) s m args below meth c H locs 0 0 Q (F0 m 0 ls []) := by
  obtain ⟨hx, hb, -⟩ := id C
  intro H locs ls hW hl
  unfold f_X4_set at h
  obtain ⟨hk, h⟩ := ck_some h
  refine lv_aload_n hx hb dX4_set_0 rfl (lv_at hl 0 rfl) ?_
  refine lv_iload_n hx hb dX4_set_1 rfl (lv_at hl 1 rfl) ?_
  refine lv_iconst (v := 1) hx hb dX4_set_2 (by decide) ?_
  obtain ⟨r3, r3h, h⟩ := bd_some h
  refine x_backI hW (x_runV (As := [.int a0, .int ((1 : Int32))]) (rest := []) C hW (c_X4_hasCells l G r3h H.size) cv_RX4_39 (rv_X4 hk) hl.1 rfl rfl ⟨by decide, by decide⟩ (Nat.le_of_ble_eq_true rfl) ⟨Nat.zero_le _, Nat.zero_le _⟩ dX4_set_3) (fun H locs hW => ?_)
  refine z_if_eq (tgt := 20) hx hb dX4_set_6 (by decide) (fun b6 => ?_) (fun b6 => ?_)
  · have h := it_t b6 h
    obtain rfl := Option.some.inj h
    exact K _ _ _ _ dX4_set_20 hW
  · have h := it_f b6 h
    refine lv_aload_n hx hb dX4_set_9 rfl (lv_at hl 0 rfl) ?_
    refine gf_RX4_9 C hW hk dX4_set_10 ?_
    refine lv_iload_n hx hb dX4_set_13 rfl (lv_at hl 1 rfl) ?_
    refine lv_aload_n hx hb dX4_set_14 rfl (lv_at hl 0 rfl) ?_
    refine lv_iload_n hx hb dX4_set_15 rfl (lv_at hl 2 rfl) ?_
    obtain ⟨r16, r16h, h⟩ := bd_some h
    refine x_backI hW (x_runV (As := [.int a1]) (rest := [.int a0, .ref (adr G (k + 4))]) C hW (c_X4_cut l G r16h H.size) cv_RX4_43 (rv_X4 hk) hl.1 rfl rfl ⟨by decide, by decide⟩ (Nat.le_of_ble_eq_true rfl) ⟨Nat.zero_le _, Nat.zero_le _⟩ dX4_set_16) (fun H locs hW => ?_)
    obtain ⟨g19, h⟩ := ck_some h
    refine x_iast C hW (k := k + 4) (n := 60) (sh_ar hk).2 (eX_cells hk) g19 dX4_set_19 (fun H locs hW => ?_)
    obtain rfl := Option.some.inj h
    exact K _ _ _ _ dX4_set_20 hW
set_option maxRecDepth 100000 in
theorem c_X4_set (l : Launch) (G : Geo) {S : St} {k : Nat} {a0 : Int32} {a1 : Int32} {o : St} (h : f_X4_set S k a0 a1 = some o) : MV 37 eX G l yX4_set cX4_set 3 none 1 [.ref (adr G k), .int a0, .int a1] S o :=
  mV_of (by decide +kernel) (Nat.le_of_ble_eq_true rfl) (fun p e s m below meth c A H0 Q C K => w_f_X4_set C h K)
def f_X5_codeAt (S : St) (a0 : Int32) : Option (Int32) :=
  if a0 < 0 then (some ((-1 : Int32))) else (if (S 2 1) ≤ a0 then (some ((-1 : Int32))) else (ck (okx a0 60) <| some (S 28 (ix a0))))
set_option maxHeartbeats 4000000 in
set_option maxRecDepth 100000 in
theorem w_f_X5_codeAt {G : Geo} {p : Program} {l : Launch} {e : Env} {s : State} {m : MethodId} {args : Array Value} {below : List Frame} {meth : Method} {c : Code} {A : Nat → Prop} {H0 : Heap} {Q : State → Prop} (C : Cx G RX5 cX5_codeAt 2 p s m args c) {S : St} {a0 : Int32} {o : Int32} (h : f_X5_codeAt S a0 = some o) (K : KI 37 eX G A H0 cX5_codeAt p l e 0 s m args below meth c Q o S) : ∀ (H : Heap) (locs : List Loc) (ls : Array Slot), HX G A H0 S H locs → lv_has ls 2 [(0, .ref (adr G 2)), (1, .int a0)] → W p l e (rmK 0) s m args below meth c H locs 0 0 Q (F0 m 0 ls []) := by
  obtain ⟨hx, hb, -⟩ := id C
  intro H locs ls hW hl
  unfold f_X5_codeAt at h
  refine lv_iload_n hx hb dX5_codeAt_0 rfl (lv_at hl 1 rfl) ?_
  refine lv_if_lt (tgt := 21) hx hb dX5_codeAt_1 (by decide) (fun b1 => ?_) (fun b1 => ?_)
  · have h := it_t b1 h
    refine lv_iconst (v := (-1)) hx hb dX5_codeAt_21 (by decide) ?_
    obtain rfl := Option.some.inj h
    exact K _ _ _ _ dX5_codeAt_22 hW
  · have h := it_f b1 h
    refine lv_iload_n hx hb dX5_codeAt_4 rfl (lv_at hl 1 rfl) ?_
    refine lv_aload_n hx hb dX5_codeAt_5 rfl (lv_at hl 0 rfl) ?_
    refine gf_RX5_21 C hW dX5_codeAt_6 ?_
    refine lv_icmp_ge (tgt := 21) hx hb dX5_codeAt_9 (by decide) (fun b9 => ?_) (fun b9 => ?_)
    · have h := it_t b9 h
      refine lv_iconst (v := (-1)) hx hb dX5_codeAt_21 (by decide) ?_
      obtain rfl := Option.some.inj h
      exact K _ _ _ _ dX5_codeAt_22 hW
    · have h := it_f b9 h
      refine lv_aload_n hx hb dX5_codeAt_12 rfl (lv_at hl 0 rfl) ?_
      refine gf_RX5_9 C hW dX5_codeAt_13 ?_
      refine lv_iload_n hx hb dX5_codeAt_16 rfl (lv_at hl 1 rfl) ?_
      obtain ⟨g17, h⟩ := ck_some h
      refine x_iald C hW (k := 28) (n := 60) (by decide) (fun _ => rfl) g17 dX5_codeAt_17 ?_
      refine lv_goto (tgt := 22) hx hb dX5_codeAt_18 (by decide) ?_
      obtain rfl := Option.some.inj h
      exact K _ _ _ _ dX5_codeAt_22 hW
set_option maxRecDepth 100000 in
theorem c_X5_codeAt (l : Launch) (G : Geo) {S : St} {a0 : Int32} {o : Int32} (h : f_X5_codeAt S a0 = some o) : MI 37 eX G l yX5_codeAt cX5_codeAt 2 (some .int) 0 [.ref (adr G 2), .int a0] S o S :=
  mI_of (by decide +kernel) (Nat.le_of_ble_eq_true rfl) (fun p e s m below meth c A H0 Q C K => w_f_X5_codeAt C h K)
def f_X5_kindOf (a0 : Int32) : Option (Int32) :=
  if a0 = 98 then (some ((1 : Int32))) else if a0 = 100 then (some ((2 : Int32))) else if a0 = 112 then (some ((0 : Int32))) else (some ((-9 : Int32)))
set_option maxHeartbeats 4000000 in
set_option maxRecDepth 100000 in
theorem w_f_X5_kindOf {G : Geo} {p : Program} {l : Launch} {e : Env} {s : State} {m : MethodId} {args : Array Value} {below : List Frame} {meth : Method} {c : Code} {A : Nat → Prop} {H0 : Heap} {Q : State → Prop} (C : Cx G RX5 cX5_kindOf 1 p s m args c) {S : St} {a0 : Int32} {o : Int32} (h : f_X5_kindOf a0 = some o) (K : KI 37 eX G A H0 cX5_kindOf p l e 0 s m args below meth c Q o S) : ∀ (H : Heap) (locs : List Loc) (ls : Array Slot), HX G A H0 S H locs → lv_has ls 1 [(0, .int a0)] → W p l e (rmK 0) s m args below meth c H locs 0 0 Q (F0 m 0 ls []) := by
  obtain ⟨hx, hb, -⟩ := id C
  intro H locs ls hW hl
  unfold f_X5_kindOf at h
  refine lv_iload_n hx hb dX5_kindOf_0 rfl (lv_at hl 0 rfl) ?_
  by_cases v1_0 : a0 = 98
  · have h := it_t v1_0 h
    refine lv_lookup (off := 37) (tgt := 38) hx hb dX5_kindOf_1 (by decide) (by rw [v1_0]; rfl) (by decide) ?_
    refine lv_iconst (v := 1) hx hb dX5_kindOf_38 (by decide) ?_
    obtain rfl := Option.some.inj h
    exact K _ _ _ _ dX5_kindOf_39 hW
  · have h := it_f v1_0 h
    by_cases v1_1 : a0 = 100
    · have h := it_t v1_1 h
      refine lv_lookup (off := 39) (tgt := 40) hx hb dX5_kindOf_1 (by decide) (by rw [v1_1]; rfl) (by decide) ?_
      refine lv_iconst (v := 2) hx hb dX5_kindOf_40 (by decide) ?_
      obtain rfl := Option.some.inj h
      exact K _ _ _ _ dX5_kindOf_41 hW
    · have h := it_f v1_1 h
      by_cases v1_2 : a0 = 112
      · have h := it_t v1_2 h
        refine lv_lookup (off := 35) (tgt := 36) hx hb dX5_kindOf_1 (by decide) (by rw [v1_2]; rfl) (by decide) ?_
        refine lv_iconst (v := 0) hx hb dX5_kindOf_36 (by decide) ?_
        obtain rfl := Option.some.inj h
        exact K _ _ _ _ dX5_kindOf_37 hW
      · have h := it_f v1_2 h
        have w1_0 := ne_i 98 98 (by decide) v1_0
        have w1_1 := ne_i 100 100 (by decide) v1_1
        have w1_2 := ne_i 112 112 (by decide) v1_2
        refine lv_lookup (off := 41) (tgt := 42) hx hb dX5_kindOf_1 (by decide) (by simp [Op.lookupswitch.offset, w1_0, Ne.symm w1_0, w1_1, Ne.symm w1_1, w1_2, Ne.symm w1_2]) (by decide) ?_
        refine lv_bipush (v := (-9)) hx hb dX5_kindOf_42 (by decide) ?_
        obtain rfl := Option.some.inj h
        exact K _ _ _ _ dX5_kindOf_44 hW
set_option maxRecDepth 100000 in
theorem c_X5_kindOf (l : Launch) (G : Geo) {S : St} {a0 : Int32} {o : Int32} (h : f_X5_kindOf a0 = some o) : MI 37 eX G l yX5_kindOf cX5_kindOf 1 (some .int) 0 [.int a0] S o S :=
  mI_of (by decide +kernel) (Nat.le_of_ble_eq_true rfl) (fun p e s m below meth c A H0 Q C K => w_f_X5_kindOf C h K)
def f_X6_isIn (a0 : Int32) (a1 : Int32) (a2 : Int32) : Option (Bool) :=
  if a0 < a1 then (some false) else (if a2 < a0 then (some false) else (some true))
set_option maxHeartbeats 4000000 in
set_option maxRecDepth 100000 in
theorem w_f_X6_isIn {G : Geo} {p : Program} {l : Launch} {e : Env} {s : State} {m : MethodId} {args : Array Value} {below : List Frame} {meth : Method} {c : Code} {A : Nat → Prop} {H0 : Heap} {Q : State → Prop} (C : Cx G RX6 cX6_isIn 3 p s m args c) {S : St} {a0 : Int32} {a1 : Int32} {a2 : Int32} {o : Bool} (h : f_X6_isIn a0 a1 a2 = some o) (K : KI 37 eX G A H0 cX6_isIn p l e 0 s m args below meth c Q (bi o) S) : ∀ (H : Heap) (locs : List Loc) (ls : Array Slot), HX G A H0 S H locs → lv_has ls 3 [(0, .int a0), (1, .int a1), (2, .int a2)] → W p l e (rmK 0) s m args below meth c H locs 0 0 Q (F0 m 0 ls []) := by
  obtain ⟨hx, hb, -⟩ := id C
  intro H locs ls hW hl
  unfold f_X6_isIn at h
  refine lv_iload_n hx hb dX6_isIn_0 rfl (lv_at hl 0 rfl) ?_
  refine lv_iload_n hx hb dX6_isIn_1 rfl (lv_at hl 1 rfl) ?_
  refine lv_icmp_lt (tgt := 14) hx hb dX6_isIn_2 (by decide) (fun b2 => ?_) (fun b2 => ?_)
  · have h := it_t b2 h
    refine lv_iconst (v := 0) hx hb dX6_isIn_14 (by decide) ?_
    obtain rfl := Option.some.inj h
    exact K _ _ _ _ dX6_isIn_15 hW
  · have h := it_f b2 h
    refine lv_iload_n hx hb dX6_isIn_5 rfl (lv_at hl 0 rfl) ?_
    refine lv_iload_n hx hb dX6_isIn_6 rfl (lv_at hl 2 rfl) ?_
    refine lv_icmp_gt (tgt := 14) hx hb dX6_isIn_7 (by decide) (fun b7 => ?_) (fun b7 => ?_)
    · have h := it_t b7 h
      refine lv_iconst (v := 0) hx hb dX6_isIn_14 (by decide) ?_
      obtain rfl := Option.some.inj h
      exact K _ _ _ _ dX6_isIn_15 hW
    · have h := it_f b7 h
      refine lv_iconst (v := 1) hx hb dX6_isIn_10 (by decide) ?_
      refine lv_goto (tgt := 15) hx hb dX6_isIn_11 (by decide) ?_
      obtain rfl := Option.some.inj h
      exact K _ _ _ _ dX6_isIn_15 hW
set_option maxRecDepth 100000 in
theorem c_X6_isIn (l : Launch) (G : Geo) {S : St} {a0 : Int32} {a1 : Int32} {a2 : Int32} {o : Bool} (h : f_X6_isIn a0 a1 a2 = some o) : MI 37 eX G l yX6_isIn cX6_isIn 3 (some .boolean) 0 [.int a0, .int a1, .int a2] S (bi o) S :=
  mZ_of (by decide +kernel) (Nat.le_of_ble_eq_true rfl) (fun p e s m below meth c A H0 Q C K => w_f_X6_isIn C h K)
def f_X5_isDigit (S : St) (a0 : Int32) (a1 : Int32) (a2 : Int32) : Option (Bool) :=
  bd (f_X5_codeAt S a0) fun r2 => bd (f_X6_isIn r2 a1 a2) fun r7 => some r7
set_option maxHeartbeats 4000000 in
set_option maxRecDepth 100000 in
theorem w_f_X5_isDigit {G : Geo} {p : Program} {l : Launch} {e : Env} {s : State} {m : MethodId} {args : Array Value} {below : List Frame} {meth : Method} {c : Code} {A : Nat → Prop} {H0 : Heap} {Q : State → Prop} (C : Cx G RX5 cX5_isDigit 4 p s m args c) {S : St} {a0 : Int32} {a1 : Int32} {a2 : Int32} {o : Bool} (h : f_X5_isDigit S a0 a1 a2 = some o) (K : KI 37 eX G A H0 cX5_isDigit p l e 1 s m args below meth c Q (bi o) S) : ∀ (H : Heap) (locs : List Loc) (ls : Array Slot), HX G A H0 S H locs → lv_has ls 4 [(0, .ref (adr G 2)), (1, .int a0), (2, .int a1), (3, .int a2)] → W p l e (rmK 1) s m args below meth c H locs 0 0 Q (F0 m 0 ls []) := by
  obtain ⟨hx, hb, -⟩ := id C
  intro H locs ls hW hl
  unfold f_X5_isDigit at h
  refine lv_aload_n hx hb dX5_isDigit_0 rfl (lv_at hl 0 rfl) ?_
  refine lv_iload_n hx hb dX5_isDigit_1 rfl (lv_at hl 1 rfl) ?_
  obtain ⟨r2, r2h, h⟩ := bd_some h
  refine x_backI hW (x_runV (As := [.int a0]) (rest := []) C hW (c_X5_codeAt l G r2h H.size) cv_RX5_31 rv_X5 hl.1 rfl rfl ⟨by decide, by decide⟩ (Nat.le_of_ble_eq_true rfl) ⟨Nat.zero_le _, Nat.zero_le _⟩ dX5_isDigit_2) (fun H locs hW => ?_)
  refine lv_iload_n hx hb dX5_isDigit_5 rfl (lv_at hl 2 rfl) ?_
  refine lv_iload_n hx hb dX5_isDigit_6 rfl (lv_at hl 3 rfl) ?_
  obtain ⟨r7, r7h, h⟩ := bd_some h
  refine x_backI hW (x_runSN (n := 3) (As := [.int r2, .int a1, .int a2]) (rest := []) C hW (c_X6_isIn l G (S := S) r7h H.size) C.2.2.2.2.2.2.2 uST_X6_isIn uINI_RX6 uCO_X6_isIn (by decide +kernel) hl.1 rfl rfl ⟨by decide, by decide⟩ (Nat.le_of_ble_eq_true rfl) ⟨Nat.zero_le _, Nat.zero_le _⟩ dX5_isDigit_7) (fun H locs hW => ?_)
  obtain rfl := Option.some.inj h
  exact K _ _ _ _ dX5_isDigit_10 hW
set_option maxRecDepth 100000 in
theorem c_X5_isDigit (l : Launch) (G : Geo) {S : St} {a0 : Int32} {a1 : Int32} {a2 : Int32} {o : Bool} (h : f_X5_isDigit S a0 a1 a2 = some o) : MI 37 eX G l yX5_isDigit cX5_isDigit 4 (some .boolean) 1 [.ref (adr G 2), .int a0, .int a1, .int a2] S (bi o) S :=
  mZ_of (by decide +kernel) (Nat.le_of_ble_eq_true rfl) (fun p e s m below meth c A H0 Q C K => w_f_X5_isDigit C h K)
def i_X5_faultInSwitch_51 (S : St) (x1 : Int32) (x2 : Int32) : Option ((Int32) ⊕ ((Int32) ⊕ (Int32))) :=
  if (S 2 2) ≤ x2 then (some (.inr (.inl x2))) else (bd (f_X5_isDigit S ((x1 + ((3 : Int32))) + x2) ((48 : Int32)) ((49 : Int32))) fun r69 => if r69 = true then (some (.inl (x2 + (1 : Int32)))) else (some (.inr (.inr ((x1 + ((3 : Int32))) + x2)))))
set_option maxHeartbeats 4000000 in
set_option maxRecDepth 100000 in
theorem w_i_X5_faultInSwitch_51 {G : Geo} {p : Program} {l : Launch} {e : Env} {s : State} {m : MethodId} {args : Array Value} {below : List Frame} {meth : Method} {c : Code} {A : Nat → Prop} {H0 : Heap} {Q : State → Prop} (C : Cx G RX5 cX5_faultInSwitch 3 p s m args c) {S : St} {x1 : Int32} {x2 : Int32} {o : (Int32) ⊕ ((Int32) ⊕ (Int32))} (h : i_X5_faultInSwitch_51 S x1 x2 = some o) (Kn : ∀ q, o = .inl q → ∀ (H : Heap) (locs : List Loc) (ls : Array Slot), HX G A H0 S H locs → lv_has ls 3 [(0, .ref (adr G 2)), (1, .int x1), (2, .int q)] → W p l e (rmK 2) s m args below meth c H locs 0 0 Q (F0 m 51 ls [])) (Kt : ∀ u, o = .inr u → (∀ q, u = .inl q → ∀ (H : Heap) (locs : List Loc) (ls : Array Slot), HX G A H0 S H locs → lv_has ls 3 [] → W p l e (rmK 2) s m args below meth c H locs 0 0 Q (F0 m 87 ls [])) ∧ (∀ r, u = .inr r → KI 37 eX G A H0 cX5_faultInSwitch p l e 2 s m args below meth c Q r S)) : ∀ (H : Heap) (locs : List Loc) (ls : Array Slot), HX G A H0 S H locs → lv_has ls 3 [(0, .ref (adr G 2)), (1, .int x1), (2, .int x2)] → W p l e (rmK 2) s m args below meth c H locs 0 0 Q (F0 m 51 ls []) := by
  obtain ⟨hx, hb, -⟩ := id C
  intro H locs ls hW hl
  unfold i_X5_faultInSwitch_51 at h
  refine lv_iload_n hx hb dX5_faultInSwitch_51 rfl (lv_at hl 2 rfl) ?_
  refine lv_aload_n hx hb dX5_faultInSwitch_52 rfl (lv_at hl 0 rfl) ?_
  refine gf_RX5_38 C hW dX5_faultInSwitch_53 ?_
  refine lv_icmp_ge (tgt := 87) hx hb dX5_faultInSwitch_56 (by decide) (fun b56 => ?_) (fun b56 => ?_)
  · have h := it_t b56 h
    obtain rfl := Option.some.inj h
    exact (Kt _ rfl).1 _ rfl _ _ _ hW (lv_sub hl [] rfl)
  · have h := it_f b56 h
    refine lv_aload_n hx hb dX5_faultInSwitch_59 rfl (lv_at hl 0 rfl) ?_
    refine lv_iload_n hx hb dX5_faultInSwitch_60 rfl (lv_at hl 1 rfl) ?_
    refine lv_iconst (v := 3) hx hb dX5_faultInSwitch_61 (by decide) ?_
    refine lv_iadd hx hb dX5_faultInSwitch_62 ?_
    refine lv_iload_n hx hb dX5_faultInSwitch_63 rfl (lv_at hl 2 rfl) ?_
    refine lv_iadd hx hb dX5_faultInSwitch_64 ?_
    refine lv_bipush (v := 48) hx hb dX5_faultInSwitch_65 (by decide) ?_
    refine lv_bipush (v := 49) hx hb dX5_faultInSwitch_67 (by decide) ?_
    obtain ⟨r69, r69h, h⟩ := bd_some h
    refine x_backI hW (x_runV (As := [.int ((x1 + ((3 : Int32))) + x2), .int ((48 : Int32)), .int ((49 : Int32))]) (rest := []) C hW (c_X5_isDigit l G r69h H.size) cv_RX5_41 rv_X5 hl.1 rfl rfl ⟨by decide, by decide⟩ (Nat.le_of_ble_eq_true rfl) ⟨Nat.zero_le _, Nat.zero_le _⟩ dX5_faultInSwitch_69) (fun H locs hW => ?_)
    refine z_if_ne (tgt := 81) hx hb dX5_faultInSwitch_72 (by decide) (fun b72 => ?_) (fun b72 => ?_)
    · have h := it_t b72 h
      refine lv_iinc (v := (x2 + (1 : Int32))) (lv' := [(2, .int (x2 + (1 : Int32))), (0, .ref (adr G 2)), (1, .int x1)]) hx hb dX5_faultInSwitch_81 hl (k := 2) rfl rfl (by decide) rfl (fun ls hl => ?_)
      refine lv_goto (tgt := 51) hx hb dX5_faultInSwitch_84 (by decide) ?_
      obtain rfl := Option.some.inj h
      exact Kn _ rfl _ _ _ hW (lv_sub hl [1, 2, 0] rfl)
    · have h := it_f b72 h
      refine lv_iload_n hx hb dX5_faultInSwitch_75 rfl (lv_at hl 1 rfl) ?_
      refine lv_iconst (v := 3) hx hb dX5_faultInSwitch_76 (by decide) ?_
      refine lv_iadd hx hb dX5_faultInSwitch_77 ?_
      refine lv_iload_n hx hb dX5_faultInSwitch_78 rfl (lv_at hl 2 rfl) ?_
      refine lv_iadd hx hb dX5_faultInSwitch_79 ?_
      obtain rfl := Option.some.inj h
      exact (Kt _ rfl).2 _ rfl _ _ _ _ dX5_faultInSwitch_80 hW
set_option maxHeartbeats 4000000 in
set_option maxRecDepth 100000 in
theorem l_i_X5_faultInSwitch_51 {G : Geo} {p : Program} {l : Launch} {e : Env} {s : State} {m : MethodId} {args : Array Value} {below : List Frame} {meth : Method} {c : Code} {A : Nat → Prop} {H0 : Heap} {Q : State → Prop} (C : Cx G RX5 cX5_faultInSwitch 3 p s m args c) {S : St} {x1 : Int32} {n : Nat} {q0 : Int32} {u : (Int32) ⊕ (Int32)} (hq : iter (fun q : Int32 => i_X5_faultInSwitch_51 S x1 q) n q0 = some u) (Kt : (∀ q, u = .inl q → ∀ (H : Heap) (locs : List Loc) (ls : Array Slot), HX G A H0 S H locs → lv_has ls 3 [] → W p l e (rmK 2) s m args below meth c H locs 0 0 Q (F0 m 87 ls [])) ∧ (∀ r, u = .inr r → KI 37 eX G A H0 cX5_faultInSwitch p l e 2 s m args below meth c Q r S)) : (fun q : Int32 => ∀ (H : Heap) (locs : List Loc) (ls : Array Slot), HX G A H0 S H locs → lv_has ls 3 [(0, .ref (adr G 2)), (1, .int x1), (2, .int q)] → W p l e (rmK 2) s m args below meth c H locs 0 0 Q (F0 m 51 ls [])) q0 :=
  iter_W (P := fun q : Int32 => ∀ (H : Heap) (locs : List Loc) (ls : Array Slot), HX G A H0 S H locs → lv_has ls 3 [(0, .ref (adr G 2)), (1, .int x1), (2, .int q)] → W p l e (rmK 2) s m args below meth c H locs 0 0 Q (F0 m 51 ls [])) (K := fun u => (∀ q, u = .inl q → ∀ (H : Heap) (locs : List Loc) (ls : Array Slot), HX G A H0 S H locs → lv_has ls 3 [] → W p l e (rmK 2) s m args below meth c H locs 0 0 Q (F0 m 87 ls [])) ∧ (∀ r, u = .inr r → KI 37 eX G A H0 cX5_faultInSwitch p l e 2 s m args below meth c Q r S)) (fun q o hit Kn Kt => w_i_X5_faultInSwitch_51 C  hit Kn Kt) n q0 u hq Kt
def f_X5_faultInSwitch (S : St) (a0 : Int32) : Option (Int32) :=
  bd (f_X5_codeAt S a0) fun r2 => if r2 = ((59 : Int32)) then (bd (f_X5_codeAt S (a0 + ((1 : Int32)))) fun r16 => bd (f_X5_kindOf r16) fun r19 => if r19 = ((-9 : Int32)) then (some (a0 + ((1 : Int32)))) else (bd (f_X5_isDigit S (a0 + ((2 : Int32))) ((49 : Int32)) ((52 : Int32))) fun r39 => if r39 = true then (bd (iter (fun q => i_X5_faultInSwitch_51 S a0 q) BIG ((0 : Int32))) fun u51 => sm u51 (fun q51 => some ((-9 : Int32))) fun w51 => some w51) else (some (a0 + ((2 : Int32)))))) else (some a0)
set_option maxHeartbeats 4000000 in
set_option maxRecDepth 100000 in
theorem w_f_X5_faultInSwitch {G : Geo} {p : Program} {l : Launch} {e : Env} {s : State} {m : MethodId} {args : Array Value} {below : List Frame} {meth : Method} {c : Code} {A : Nat → Prop} {H0 : Heap} {Q : State → Prop} (C : Cx G RX5 cX5_faultInSwitch 3 p s m args c) {S : St} {a0 : Int32} {o : Int32} (h : f_X5_faultInSwitch S a0 = some o) (K : KI 37 eX G A H0 cX5_faultInSwitch p l e 2 s m args below meth c Q o S) : ∀ (H : Heap) (locs : List Loc) (ls : Array Slot), HX G A H0 S H locs → lv_has ls 3 [(0, .ref (adr G 2)), (1, .int a0)] → W p l e (rmK 2) s m args below meth c H locs 0 0 Q (F0 m 0 ls []) := by
  obtain ⟨hx, hb, -⟩ := id C
  intro H locs ls hW hl
  unfold f_X5_faultInSwitch at h
  refine lv_aload_n hx hb dX5_faultInSwitch_0 rfl (lv_at hl 0 rfl) ?_
  refine lv_iload_n hx hb dX5_faultInSwitch_1 rfl (lv_at hl 1 rfl) ?_
  obtain ⟨r2, r2h, h⟩ := bd_some h
  refine x_backI hW (x_runV (As := [.int a0]) (rest := []) C hW (c_X5_codeAt l G r2h H.size) cv_RX5_31 rv_X5 hl.1 rfl rfl ⟨by decide, by decide⟩ (Nat.le_of_ble_eq_true rfl) ⟨Nat.zero_le _, Nat.zero_le _⟩ dX5_faultInSwitch_2) (fun H locs hW => ?_)
  refine lv_bipush (v := 59) hx hb dX5_faultInSwitch_5 (by decide) ?_
  refine lv_icmp_eq (tgt := 12) hx hb dX5_faultInSwitch_7 (by decide) (fun b7 => ?_) (fun b7 => ?_)
  · have h := it_t b7 h
    refine lv_aload_n hx hb dX5_faultInSwitch_12 rfl (lv_at hl 0 rfl) ?_
    refine lv_iload_n hx hb dX5_faultInSwitch_13 rfl (lv_at hl 1 rfl) ?_
    refine lv_iconst (v := 1) hx hb dX5_faultInSwitch_14 (by decide) ?_
    refine lv_iadd hx hb dX5_faultInSwitch_15 ?_
    obtain ⟨r16, r16h, h⟩ := bd_some h
    refine x_backI hW (x_runV (As := [.int (a0 + ((1 : Int32)))]) (rest := []) C hW (c_X5_codeAt l G r16h H.size) cv_RX5_31 rv_X5 hl.1 rfl rfl ⟨by decide, by decide⟩ (Nat.le_of_ble_eq_true rfl) ⟨Nat.zero_le _, Nat.zero_le _⟩ dX5_faultInSwitch_16) (fun H locs hW => ?_)
    obtain ⟨r19, r19h, h⟩ := bd_some h
    refine x_backI hW (x_runS (As := [.int r16]) (rest := []) C hW (c_X5_kindOf l G (S := S) r19h H.size) cs_RX5_54 hl.1 rfl rfl ⟨by decide, by decide⟩ (Nat.le_of_ble_eq_true rfl) ⟨Nat.zero_le _, Nat.zero_le _⟩ dX5_faultInSwitch_19) (fun H locs hW => ?_)
    refine lv_bipush (v := (-9)) hx hb dX5_faultInSwitch_22 (by decide) ?_
    refine lv_icmp_ne (tgt := 31) hx hb dX5_faultInSwitch_24 (by decide) (fun b24 => ?_) (fun b24 => ?_)
    · have h := it_f b24 h
      refine lv_aload_n hx hb dX5_faultInSwitch_31 rfl (lv_at hl 0 rfl) ?_
      refine lv_iload_n hx hb dX5_faultInSwitch_32 rfl (lv_at hl 1 rfl) ?_
      refine lv_iconst (v := 2) hx hb dX5_faultInSwitch_33 (by decide) ?_
      refine lv_iadd hx hb dX5_faultInSwitch_34 ?_
      refine lv_bipush (v := 49) hx hb dX5_faultInSwitch_35 (by decide) ?_
      refine lv_bipush (v := 52) hx hb dX5_faultInSwitch_37 (by decide) ?_
      obtain ⟨r39, r39h, h⟩ := bd_some h
      refine x_backI hW (x_runV (As := [.int (a0 + ((2 : Int32))), .int ((49 : Int32)), .int ((52 : Int32))]) (rest := []) C hW (c_X5_isDigit l G r39h H.size) cv_RX5_41 rv_X5 hl.1 rfl rfl ⟨by decide, by decide⟩ (Nat.le_of_ble_eq_true rfl) ⟨Nat.zero_le _, Nat.zero_le _⟩ dX5_faultInSwitch_39) (fun H locs hW => ?_)
      refine z_if_ne (tgt := 49) hx hb dX5_faultInSwitch_42 (by decide) (fun b42 => ?_) (fun b42 => ?_)
      · have h := it_t b42 h
        refine lv_iconst (v := 0) hx hb dX5_faultInSwitch_49 (by decide) ?_
        refine lv_istore_n (lv' := [(2, .int ((0 : Int32))), (0, .ref (adr G 2)), (1, .int a0)]) hx hb dX5_faultInSwitch_50 rfl hl (by decide) rfl (fun ls hl => ?_)
        obtain ⟨u51, u51h, h⟩ := bd_some h
        refine l_i_X5_faultInSwitch_51 C  u51h ⟨?_, ?_⟩ _ _ _ hW (lv_sub hl [1, 2, 0] rfl)
        · intro q51 hu; subst hu; have h := sm_l h
          intro H locs ls hW hl
          refine lv_bipush (v := (-9)) hx hb dX5_faultInSwitch_87 (by decide) ?_
          obtain rfl := Option.some.inj h
          exact K _ _ _ _ dX5_faultInSwitch_89 hW
        · intro w51 hu; subst hu; have h := sm_r h
          obtain rfl := Option.some.inj h
          exact K
      · have h := it_f b42 h
        refine lv_iload_n hx hb dX5_faultInSwitch_45 rfl (lv_at hl 1 rfl) ?_
        refine lv_iconst (v := 2) hx hb dX5_faultInSwitch_46 (by decide) ?_
        refine lv_iadd hx hb dX5_faultInSwitch_47 ?_
        obtain rfl := Option.some.inj h
        exact K _ _ _ _ dX5_faultInSwitch_48 hW
    · have h := it_t b24 h
      refine lv_iload_n hx hb dX5_faultInSwitch_27 rfl (lv_at hl 1 rfl) ?_
      refine lv_iconst (v := 1) hx hb dX5_faultInSwitch_28 (by decide) ?_
      refine lv_iadd hx hb dX5_faultInSwitch_29 ?_
      obtain rfl := Option.some.inj h
      exact K _ _ _ _ dX5_faultInSwitch_30 hW
  · have h := it_f b7 h
    refine lv_iload_n hx hb dX5_faultInSwitch_10 rfl (lv_at hl 1 rfl) ?_
    obtain rfl := Option.some.inj h
    exact K _ _ _ _ dX5_faultInSwitch_11 hW
set_option maxRecDepth 100000 in
theorem c_X5_faultInSwitch (l : Launch) (G : Geo) {S : St} {a0 : Int32} {o : Int32} (h : f_X5_faultInSwitch S a0 = some o) : MI 37 eX G l yX5_faultInSwitch cX5_faultInSwitch 3 (some .int) 2 [.ref (adr G 2), .int a0] S o S :=
  mI_of (by decide +kernel) (Nat.le_of_ble_eq_true rfl) (fun p e s m below meth c A H0 Q C K => w_f_X5_faultInSwitch C h K)
def f_X5_placeOf (S : St) (a0 : Int32) : Option (Int32) :=
  some ((((1 : Int32)) + (S 2 2)) + (a0 * (((3 : Int32)) + (S 2 2))))
set_option maxHeartbeats 4000000 in
set_option maxRecDepth 100000 in
theorem w_f_X5_placeOf {G : Geo} {p : Program} {l : Launch} {e : Env} {s : State} {m : MethodId} {args : Array Value} {below : List Frame} {meth : Method} {c : Code} {A : Nat → Prop} {H0 : Heap} {Q : State → Prop} (C : Cx G RX5 cX5_placeOf 2 p s m args c) {S : St} {a0 : Int32} {o : Int32} (h : f_X5_placeOf S a0 = some o) (K : KI 37 eX G A H0 cX5_placeOf p l e 0 s m args below meth c Q o S) : ∀ (H : Heap) (locs : List Loc) (ls : Array Slot), HX G A H0 S H locs → lv_has ls 2 [(0, .ref (adr G 2)), (1, .int a0)] → W p l e (rmK 0) s m args below meth c H locs 0 0 Q (F0 m 0 ls []) := by
  obtain ⟨hx, hb, -⟩ := id C
  intro H locs ls hW hl
  unfold f_X5_placeOf at h
  refine lv_iconst (v := 1) hx hb dX5_placeOf_0 (by decide) ?_
  refine lv_aload_n hx hb dX5_placeOf_1 rfl (lv_at hl 0 rfl) ?_
  refine gf_RX5_38 C hW dX5_placeOf_2 ?_
  refine lv_iadd hx hb dX5_placeOf_5 ?_
  refine lv_iload_n hx hb dX5_placeOf_6 rfl (lv_at hl 1 rfl) ?_
  refine lv_iconst (v := 3) hx hb dX5_placeOf_7 (by decide) ?_
  refine lv_aload_n hx hb dX5_placeOf_8 rfl (lv_at hl 0 rfl) ?_
  refine gf_RX5_38 C hW dX5_placeOf_9 ?_
  refine lv_iadd hx hb dX5_placeOf_12 ?_
  refine lv_imul hx hb dX5_placeOf_13 ?_
  refine lv_iadd hx hb dX5_placeOf_14 ?_
  obtain rfl := Option.some.inj h
  exact K _ _ _ _ dX5_placeOf_15 hW
set_option maxRecDepth 100000 in
theorem c_X5_placeOf (l : Launch) (G : Geo) {S : St} {a0 : Int32} {o : Int32} (h : f_X5_placeOf S a0 = some o) : MI 37 eX G l yX5_placeOf cX5_placeOf 2 (some .int) 0 [.ref (adr G 2), .int a0] S o S :=
  mI_of (by decide +kernel) (Nat.le_of_ble_eq_true rfl) (fun p e s m below meth c A H0 Q C K => w_f_X5_placeOf C h K)
def i_X5_firstFault_17 (S : St) : Option ((St) ⊕ (St)) :=
  if ((5 : Int32)) ≤ (S 2 2) then (some (.inr S)) else (bd (f_X5_isDigit S (((1 : Int32)) + (S 2 2)) ((50 : Int32)) ((53 : Int32))) fun r36 => if r36 = false then (some (.inr S)) else (some (.inl (up S 2 2 ((S 2 2) + ((1 : Int32)))))))
set_option maxHeartbeats 4000000 in
set_option maxRecDepth 100000 in
theorem w_i_X5_firstFault_17 {G : Geo} {p : Program} {l : Launch} {e : Env} {s : State} {m : MethodId} {args : Array Value} {below : List Frame} {meth : Method} {c : Code} {A : Nat → Prop} {H0 : Heap} {Q : State → Prop} (C : Cx G RX5 cX5_firstFault 2 p s m args c) {S : St}  {o : (St) ⊕ (St)} (h : i_X5_firstFault_17 S = some o) (Kn : ∀ q, o = .inl q → ∀ (H : Heap) (locs : List Loc) (ls : Array Slot), HX G A H0 q H locs → lv_has ls 2 [(0, .ref (adr G 2))] → W p l e (rmK 3) s m args below meth c H locs 0 0 Q (F0 m 17 ls [])) (Kt : ∀ q, o = .inr q → ∀ (H : Heap) (locs : List Loc) (ls : Array Slot), HX G A H0 q H locs → lv_has ls 2 [(0, .ref (adr G 2))] → W p l e (rmK 3) s m args below meth c H locs 0 0 Q (F0 m 55 ls [])) : ∀ (H : Heap) (locs : List Loc) (ls : Array Slot), HX G A H0 S H locs → lv_has ls 2 [(0, .ref (adr G 2))] → W p l e (rmK 3) s m args below meth c H locs 0 0 Q (F0 m 17 ls []) := by
  obtain ⟨hx, hb, -⟩ := id C
  intro H locs ls hW hl
  unfold i_X5_firstFault_17 at h
  refine lv_aload_n hx hb dX5_firstFault_17 rfl (lv_at hl 0 rfl) ?_
  refine gf_RX5_38 C hW dX5_firstFault_18 ?_
  refine lv_iconst (v := 5) hx hb dX5_firstFault_21 (by decide) ?_
  refine lv_icmp_ge (tgt := 55) hx hb dX5_firstFault_22 (by decide) (fun b22 => ?_) (fun b22 => ?_)
  · have h := it_t b22 h
    obtain rfl := Option.some.inj h
    exact Kt _ rfl _ _ _ hW (lv_sub hl [0] rfl)
  · have h := it_f b22 h
    refine lv_aload_n hx hb dX5_firstFault_25 rfl (lv_at hl 0 rfl) ?_
    refine lv_iconst (v := 1) hx hb dX5_firstFault_26 (by decide) ?_
    refine lv_aload_n hx hb dX5_firstFault_27 rfl (lv_at hl 0 rfl) ?_
    refine gf_RX5_38 C hW dX5_firstFault_28 ?_
    refine lv_iadd hx hb dX5_firstFault_31 ?_
    refine lv_bipush (v := 50) hx hb dX5_firstFault_32 (by decide) ?_
    refine lv_bipush (v := 53) hx hb dX5_firstFault_34 (by decide) ?_
    obtain ⟨r36, r36h, h⟩ := bd_some h
    refine x_backI hW (x_runV (As := [.int (((1 : Int32)) + (S 2 2)), .int ((50 : Int32)), .int ((53 : Int32))]) (rest := []) C hW (c_X5_isDigit l G r36h H.size) cv_RX5_41 rv_X5 hl.1 rfl rfl ⟨by decide, by decide⟩ (Nat.le_of_ble_eq_true rfl) ⟨Nat.zero_le _, Nat.zero_le _⟩ dX5_firstFault_36) (fun H locs hW => ?_)
    refine z_if_eq (tgt := 55) hx hb dX5_firstFault_39 (by decide) (fun b39 => ?_) (fun b39 => ?_)
    · have h := it_t b39 h
      obtain rfl := Option.some.inj h
      exact Kt _ rfl _ _ _ hW (lv_sub hl [0] rfl)
    · have h := it_f b39 h
      refine lv_aload_n hx hb dX5_firstFault_42 rfl (lv_at hl 0 rfl) ?_
      refine lv_dup hx hb dX5_firstFault_43 rfl ?_
      refine gf_RX5_38 C hW dX5_firstFault_44 ?_
      refine lv_iconst (v := 1) hx hb dX5_firstFault_47 (by decide) ?_
      refine lv_iadd hx hb dX5_firstFault_48 ?_
      refine pf_RX5_38 C hW dX5_firstFault_49 (fun H locs hW => ?_)
      refine lv_goto (tgt := 17) hx hb dX5_firstFault_52 (by decide) ?_
      obtain rfl := Option.some.inj h
      exact Kn _ rfl _ _ _ hW (lv_sub hl [0] rfl)
set_option maxHeartbeats 4000000 in
set_option maxRecDepth 100000 in
theorem l_i_X5_firstFault_17 {G : Geo} {p : Program} {l : Launch} {e : Env} {s : State} {m : MethodId} {args : Array Value} {below : List Frame} {meth : Method} {c : Code} {A : Nat → Prop} {H0 : Heap} {Q : State → Prop} (C : Cx G RX5 cX5_firstFault 2 p s m args c)  {n : Nat} {q0 : St} {u : St} (hq : iter (fun q : St => i_X5_firstFault_17 q) n q0 = some u) (Kt : (fun q : St => ∀ (H : Heap) (locs : List Loc) (ls : Array Slot), HX G A H0 q H locs → lv_has ls 2 [(0, .ref (adr G 2))] → W p l e (rmK 3) s m args below meth c H locs 0 0 Q (F0 m 55 ls [])) u) : (fun q : St => ∀ (H : Heap) (locs : List Loc) (ls : Array Slot), HX G A H0 q H locs → lv_has ls 2 [(0, .ref (adr G 2))] → W p l e (rmK 3) s m args below meth c H locs 0 0 Q (F0 m 17 ls [])) q0 :=
  iter_W (P := fun q : St => ∀ (H : Heap) (locs : List Loc) (ls : Array Slot), HX G A H0 q H locs → lv_has ls 2 [(0, .ref (adr G 2))] → W p l e (rmK 3) s m args below meth c H locs 0 0 Q (F0 m 17 ls [])) (K := fun q : St => ∀ (H : Heap) (locs : List Loc) (ls : Array Slot), HX G A H0 q H locs → lv_has ls 2 [(0, .ref (adr G 2))] → W p l e (rmK 3) s m args below meth c H locs 0 0 Q (F0 m 55 ls [])) (fun q o hit Kn Kt => w_i_X5_firstFault_17 C  hit Kn Kt) n q0 u hq Kt
def j_X5_firstFault_99 (S : St) : Option ((St) ⊕ ((St) ⊕ (Int32 × St))) :=
  bd (f_X5_placeOf S (S 2 3)) fun r105 => bd (f_X5_faultInSwitch S r105) fun r108 => if r108 = ((-9 : Int32)) then (some (.inl (up S 2 3 ((S 2 3) + ((1 : Int32)))))) else (some (.inr (.inr (r108, S))))
set_option maxHeartbeats 4000000 in
set_option maxRecDepth 100000 in
theorem w_j_X5_firstFault_99 {G : Geo} {p : Program} {l : Launch} {e : Env} {s : State} {m : MethodId} {args : Array Value} {below : List Frame} {meth : Method} {c : Code} {A : Nat → Prop} {H0 : Heap} {Q : State → Prop} (C : Cx G RX5 cX5_firstFault 2 p s m args c) {S : St}  {o : (St) ⊕ ((St) ⊕ (Int32 × St))} (h : j_X5_firstFault_99 S = some o) (Kn : ∀ q, o = .inl q → ∀ (H : Heap) (locs : List Loc) (ls : Array Slot), HX G A H0 q H locs → lv_has ls 2 [(0, .ref (adr G 2))] → W p l e (rmK 3) s m args below meth c H locs 0 0 Q (F0 m 69 ls [])) (Kt : ∀ u, o = .inr u → (∀ q, u = .inl q → ∀ (H : Heap) (locs : List Loc) (ls : Array Slot), HX G A H0 q H locs → lv_has ls 2 [(0, .ref (adr G 2))] → W p l e (rmK 3) s m args below meth c H locs 0 0 Q (F0 m 133 ls [])) ∧ (∀ r, u = .inr r → KI 37 eX G A H0 cX5_firstFault p l e 3 s m args below meth c Q ((r).1) ((r).2))) : ∀ (H : Heap) (locs : List Loc) (ls : Array Slot), HX G A H0 S H locs → lv_has ls 2 [(0, .ref (adr G 2))] → W p l e (rmK 3) s m args below meth c H locs 0 0 Q (F0 m 99 ls []) := by
  obtain ⟨hx, hb, -⟩ := id C
  intro H locs ls hW hl
  unfold j_X5_firstFault_99 at h
  refine lv_aload_n hx hb dX5_firstFault_99 rfl (lv_at hl 0 rfl) ?_
  refine lv_aload_n hx hb dX5_firstFault_100 rfl (lv_at hl 0 rfl) ?_
  refine lv_aload_n hx hb dX5_firstFault_101 rfl (lv_at hl 0 rfl) ?_
  refine gf_RX5_45 C hW dX5_firstFault_102 ?_
  obtain ⟨r105, r105h, h⟩ := bd_some h
  refine x_backI hW (x_runV (As := [.int (S 2 3)]) (rest := [.ref (adr G 2)]) C hW (c_X5_placeOf l G r105h H.size) cv_RX5_48 rv_X5 hl.1 rfl rfl ⟨by decide, by decide⟩ (Nat.le_of_ble_eq_true rfl) ⟨Nat.zero_le _, Nat.zero_le _⟩ dX5_firstFault_105) (fun H locs hW => ?_)
  obtain ⟨r108, r108h, h⟩ := bd_some h
  refine x_backI hW (x_runV (As := [.int r105]) (rest := []) C hW (c_X5_faultInSwitch l G r108h H.size) cv_RX5_51 rv_X5 hl.1 rfl rfl ⟨by decide, by decide⟩ (Nat.le_of_ble_eq_true rfl) ⟨Nat.zero_le _, Nat.zero_le _⟩ dX5_firstFault_108) (fun H locs hW => ?_)
  refine lv_istore_n (lv' := [(1, .int r108), (0, .ref (adr G 2))]) hx hb dX5_firstFault_111 rfl hl (by decide) rfl (fun ls hl => ?_)
  refine lv_iload_n hx hb dX5_firstFault_112 rfl (lv_at hl 0 rfl) ?_
  refine lv_bipush (v := (-9)) hx hb dX5_firstFault_113 (by decide) ?_
  refine lv_icmp_eq (tgt := 120) hx hb dX5_firstFault_115 (by decide) (fun b115 => ?_) (fun b115 => ?_)
  · have h := it_t b115 h
    refine lv_aload_n hx hb dX5_firstFault_120 rfl (lv_at hl 1 rfl) ?_
    refine lv_dup hx hb dX5_firstFault_121 rfl ?_
    refine gf_RX5_45 C hW dX5_firstFault_122 ?_
    refine lv_iconst (v := 1) hx hb dX5_firstFault_125 (by decide) ?_
    refine lv_iadd hx hb dX5_firstFault_126 ?_
    refine pf_RX5_45 C hW dX5_firstFault_127 (fun H locs hW => ?_)
    refine lv_goto (tgt := 69) hx hb dX5_firstFault_130 (by decide) ?_
    obtain rfl := Option.some.inj h
    exact Kn _ rfl _ _ _ hW (lv_sub hl [1] rfl)
  · have h := it_f b115 h
    refine lv_iload_n hx hb dX5_firstFault_118 rfl (lv_at hl 0 rfl) ?_
    obtain rfl := Option.some.inj h
    exact (Kt _ rfl).2 _ rfl _ _ _ _ dX5_firstFault_119 hW
def i_X5_firstFault_69 (S : St) : Option ((St) ⊕ ((St) ⊕ (Int32 × St))) :=
  if ((5 : Int32)) ≤ (S 2 3) then (some (.inr (.inl S))) else (if (S 2 3) = 0 then (j_X5_firstFault_99 S) else (bd (f_X5_placeOf S (S 2 3)) fun r89 => if (S 2 1) ≤ r89 then (some (.inr (.inl S))) else (j_X5_firstFault_99 S)))
set_option maxHeartbeats 4000000 in
set_option maxRecDepth 100000 in
theorem w_i_X5_firstFault_69 {G : Geo} {p : Program} {l : Launch} {e : Env} {s : State} {m : MethodId} {args : Array Value} {below : List Frame} {meth : Method} {c : Code} {A : Nat → Prop} {H0 : Heap} {Q : State → Prop} (C : Cx G RX5 cX5_firstFault 2 p s m args c) {S : St}  {o : (St) ⊕ ((St) ⊕ (Int32 × St))} (h : i_X5_firstFault_69 S = some o) (Kn : ∀ q, o = .inl q → ∀ (H : Heap) (locs : List Loc) (ls : Array Slot), HX G A H0 q H locs → lv_has ls 2 [(0, .ref (adr G 2))] → W p l e (rmK 3) s m args below meth c H locs 0 0 Q (F0 m 69 ls [])) (Kt : ∀ u, o = .inr u → (∀ q, u = .inl q → ∀ (H : Heap) (locs : List Loc) (ls : Array Slot), HX G A H0 q H locs → lv_has ls 2 [(0, .ref (adr G 2))] → W p l e (rmK 3) s m args below meth c H locs 0 0 Q (F0 m 133 ls [])) ∧ (∀ r, u = .inr r → KI 37 eX G A H0 cX5_firstFault p l e 3 s m args below meth c Q ((r).1) ((r).2))) : ∀ (H : Heap) (locs : List Loc) (ls : Array Slot), HX G A H0 S H locs → lv_has ls 2 [(0, .ref (adr G 2))] → W p l e (rmK 3) s m args below meth c H locs 0 0 Q (F0 m 69 ls []) := by
  obtain ⟨hx, hb, -⟩ := id C
  intro H locs ls hW hl
  unfold i_X5_firstFault_69 at h
  refine lv_aload_n hx hb dX5_firstFault_69 rfl (lv_at hl 0 rfl) ?_
  refine gf_RX5_45 C hW dX5_firstFault_70 ?_
  refine lv_iconst (v := 5) hx hb dX5_firstFault_73 (by decide) ?_
  refine lv_icmp_ge (tgt := 133) hx hb dX5_firstFault_74 (by decide) (fun b74 => ?_) (fun b74 => ?_)
  · have h := it_t b74 h
    obtain rfl := Option.some.inj h
    exact (Kt _ rfl).1 _ rfl _ _ _ hW (lv_sub hl [0] rfl)
  · have h := it_f b74 h
    refine lv_aload_n hx hb dX5_firstFault_77 rfl (lv_at hl 0 rfl) ?_
    refine gf_RX5_45 C hW dX5_firstFault_78 ?_
    refine lv_if_eq (tgt := 99) hx hb dX5_firstFault_81 (by decide) (fun b81 => ?_) (fun b81 => ?_)
    · have h := it_t b81 h
      exact w_j_X5_firstFault_99 C  h Kn Kt _ _ _ hW (lv_sub hl [0] rfl)
    · have h := it_f b81 h
      refine lv_aload_n hx hb dX5_firstFault_84 rfl (lv_at hl 0 rfl) ?_
      refine lv_aload_n hx hb dX5_firstFault_85 rfl (lv_at hl 0 rfl) ?_
      refine gf_RX5_45 C hW dX5_firstFault_86 ?_
      obtain ⟨r89, r89h, h⟩ := bd_some h
      refine x_backI hW (x_runV (As := [.int (S 2 3)]) (rest := []) C hW (c_X5_placeOf l G r89h H.size) cv_RX5_48 rv_X5 hl.1 rfl rfl ⟨by decide, by decide⟩ (Nat.le_of_ble_eq_true rfl) ⟨Nat.zero_le _, Nat.zero_le _⟩ dX5_firstFault_89) (fun H locs hW => ?_)
      refine lv_aload_n hx hb dX5_firstFault_92 rfl (lv_at hl 0 rfl) ?_
      refine gf_RX5_21 C hW dX5_firstFault_93 ?_
      refine lv_icmp_ge (tgt := 133) hx hb dX5_firstFault_96 (by decide) (fun b96 => ?_) (fun b96 => ?_)
      · have h := it_t b96 h
        obtain rfl := Option.some.inj h
        exact (Kt _ rfl).1 _ rfl _ _ _ hW (lv_sub hl [0] rfl)
      · have h := it_f b96 h
        exact w_j_X5_firstFault_99 C  h Kn Kt _ _ _ hW (lv_sub hl [0] rfl)
set_option maxHeartbeats 4000000 in
set_option maxRecDepth 100000 in
theorem l_i_X5_firstFault_69 {G : Geo} {p : Program} {l : Launch} {e : Env} {s : State} {m : MethodId} {args : Array Value} {below : List Frame} {meth : Method} {c : Code} {A : Nat → Prop} {H0 : Heap} {Q : State → Prop} (C : Cx G RX5 cX5_firstFault 2 p s m args c)  {n : Nat} {q0 : St} {u : (St) ⊕ (Int32 × St)} (hq : iter (fun q : St => i_X5_firstFault_69 q) n q0 = some u) (Kt : (∀ q, u = .inl q → ∀ (H : Heap) (locs : List Loc) (ls : Array Slot), HX G A H0 q H locs → lv_has ls 2 [(0, .ref (adr G 2))] → W p l e (rmK 3) s m args below meth c H locs 0 0 Q (F0 m 133 ls [])) ∧ (∀ r, u = .inr r → KI 37 eX G A H0 cX5_firstFault p l e 3 s m args below meth c Q ((r).1) ((r).2))) : (fun q : St => ∀ (H : Heap) (locs : List Loc) (ls : Array Slot), HX G A H0 q H locs → lv_has ls 2 [(0, .ref (adr G 2))] → W p l e (rmK 3) s m args below meth c H locs 0 0 Q (F0 m 69 ls [])) q0 :=
  iter_W (P := fun q : St => ∀ (H : Heap) (locs : List Loc) (ls : Array Slot), HX G A H0 q H locs → lv_has ls 2 [(0, .ref (adr G 2))] → W p l e (rmK 3) s m args below meth c H locs 0 0 Q (F0 m 69 ls [])) (K := fun u => (∀ q, u = .inl q → ∀ (H : Heap) (locs : List Loc) (ls : Array Slot), HX G A H0 q H locs → lv_has ls 2 [(0, .ref (adr G 2))] → W p l e (rmK 3) s m args below meth c H locs 0 0 Q (F0 m 133 ls [])) ∧ (∀ r, u = .inr r → KI 37 eX G A H0 cX5_firstFault p l e 3 s m args below meth c Q ((r).1) ((r).2))) (fun q o hit Kn Kt => w_i_X5_firstFault_69 C  hit Kn Kt) n q0 u hq Kt
def j_X5_firstFault_133 (S : St) : Option (Int32 × St) :=
  bd (f_X5_placeOf S (S 2 3)) fun r138 => if r138 = (S 2 1) then (some ((-9 : Int32), S)) else (bd (f_X5_placeOf S (S 2 3)) fun r158 => some (r158, S))
set_option maxHeartbeats 4000000 in
set_option maxRecDepth 100000 in
theorem w_j_X5_firstFault_133 {G : Geo} {p : Program} {l : Launch} {e : Env} {s : State} {m : MethodId} {args : Array Value} {below : List Frame} {meth : Method} {c : Code} {A : Nat → Prop} {H0 : Heap} {Q : State → Prop} (C : Cx G RX5 cX5_firstFault 2 p s m args c) {S : St}  {o : Int32 × St} (h : j_X5_firstFault_133 S = some o) (K : KI 37 eX G A H0 cX5_firstFault p l e 3 s m args below meth c Q ((o).1) ((o).2)) : ∀ (H : Heap) (locs : List Loc) (ls : Array Slot), HX G A H0 S H locs → lv_has ls 2 [(0, .ref (adr G 2))] → W p l e (rmK 3) s m args below meth c H locs 0 0 Q (F0 m 133 ls []) := by
  obtain ⟨hx, hb, -⟩ := id C
  intro H locs ls hW hl
  unfold j_X5_firstFault_133 at h
  refine lv_aload_n hx hb dX5_firstFault_133 rfl (lv_at hl 0 rfl) ?_
  refine lv_aload_n hx hb dX5_firstFault_134 rfl (lv_at hl 0 rfl) ?_
  refine gf_RX5_45 C hW dX5_firstFault_135 ?_
  obtain ⟨r138, r138h, h⟩ := bd_some h
  refine x_backI hW (x_runV (As := [.int (S 2 3)]) (rest := []) C hW (c_X5_placeOf l G r138h H.size) cv_RX5_48 rv_X5 hl.1 rfl rfl ⟨by decide, by decide⟩ (Nat.le_of_ble_eq_true rfl) ⟨Nat.zero_le _, Nat.zero_le _⟩ dX5_firstFault_138) (fun H locs hW => ?_)
  refine lv_aload_n hx hb dX5_firstFault_141 rfl (lv_at hl 0 rfl) ?_
  refine gf_RX5_21 C hW dX5_firstFault_142 ?_
  refine lv_icmp_ne (tgt := 153) hx hb dX5_firstFault_145 (by decide) (fun b145 => ?_) (fun b145 => ?_)
  · have h := it_f b145 h
    refine lv_aload_n hx hb dX5_firstFault_153 rfl (lv_at hl 0 rfl) ?_
    refine lv_aload_n hx hb dX5_firstFault_154 rfl (lv_at hl 0 rfl) ?_
    refine gf_RX5_45 C hW dX5_firstFault_155 ?_
    obtain ⟨r158, r158h, h⟩ := bd_some h
    refine x_backI hW (x_runV (As := [.int (S 2 3)]) (rest := []) C hW (c_X5_placeOf l G r158h H.size) cv_RX5_48 rv_X5 hl.1 rfl rfl ⟨by decide, by decide⟩ (Nat.le_of_ble_eq_true rfl) ⟨Nat.zero_le _, Nat.zero_le _⟩ dX5_firstFault_158) (fun H locs hW => ?_)
    obtain rfl := Option.some.inj h
    exact K _ _ _ _ dX5_firstFault_161 hW
  · have h := it_t b145 h
    refine lv_bipush (v := (-9)) hx hb dX5_firstFault_148 (by decide) ?_
    refine lv_goto (tgt := 161) hx hb dX5_firstFault_150 (by decide) ?_
    obtain rfl := Option.some.inj h
    exact K _ _ _ _ dX5_firstFault_161 hW
def j_X5_firstFault_55 (S : St) : Option (Int32 × St) :=
  if (S 2 2) = 0 then (some ((1 : Int32), S)) else (bd (iter (fun q => i_X5_firstFault_69 q) BIG (up S 2 3 ((0 : Int32)))) fun u69 => sm u69 (fun q69 => j_X5_firstFault_133 q69) fun w69 => some w69)
set_option maxHeartbeats 4000000 in
set_option maxRecDepth 100000 in
theorem w_j_X5_firstFault_55 {G : Geo} {p : Program} {l : Launch} {e : Env} {s : State} {m : MethodId} {args : Array Value} {below : List Frame} {meth : Method} {c : Code} {A : Nat → Prop} {H0 : Heap} {Q : State → Prop} (C : Cx G RX5 cX5_firstFault 2 p s m args c) {S : St}  {o : Int32 × St} (h : j_X5_firstFault_55 S = some o) (K : KI 37 eX G A H0 cX5_firstFault p l e 3 s m args below meth c Q ((o).1) ((o).2)) : ∀ (H : Heap) (locs : List Loc) (ls : Array Slot), HX G A H0 S H locs → lv_has ls 2 [(0, .ref (adr G 2))] → W p l e (rmK 3) s m args below meth c H locs 0 0 Q (F0 m 55 ls []) := by
  obtain ⟨hx, hb, -⟩ := id C
  intro H locs ls hW hl
  unfold j_X5_firstFault_55 at h
  refine lv_aload_n hx hb dX5_firstFault_55 rfl (lv_at hl 0 rfl) ?_
  refine gf_RX5_38 C hW dX5_firstFault_56 ?_
  refine lv_if_ne (tgt := 64) hx hb dX5_firstFault_59 (by decide) (fun b59 => ?_) (fun b59 => ?_)
  · have h := it_f b59 h
    refine lv_aload_n hx hb dX5_firstFault_64 rfl (lv_at hl 0 rfl) ?_
    refine lv_iconst (v := 0) hx hb dX5_firstFault_65 (by decide) ?_
    refine pf_RX5_45 C hW dX5_firstFault_66 (fun H locs hW => ?_)
    obtain ⟨u69, u69h, h⟩ := bd_some h
    refine l_i_X5_firstFault_69 C  u69h ⟨?_, ?_⟩ _ _ _ hW (lv_sub hl [0] rfl)
    · intro q69 hu; subst hu; have h := sm_l h
      intro H locs ls hW hl
      exact w_j_X5_firstFault_133 C  h K _ _ _ hW (lv_sub hl [0] rfl)
    · intro w69 hu; subst hu; have h := sm_r h
      obtain rfl := Option.some.inj h
      exact K
  · have h := it_t b59 h
    refine lv_iconst (v := 1) hx hb dX5_firstFault_62 (by decide) ?_
    obtain rfl := Option.some.inj h
    exact K _ _ _ _ dX5_firstFault_63 hW
def f_X5_firstFault (S : St) : Option (Int32 × St) :=
  bd (f_X5_codeAt S ((0 : Int32))) fun r2 => if r2 = ((108 : Int32)) then (bd (iter (fun q => i_X5_firstFault_17 q) BIG (up S 2 2 ((0 : Int32)))) fun q17 => j_X5_firstFault_55 q17) else (some ((0 : Int32), S))
set_option maxHeartbeats 4000000 in
set_option maxRecDepth 100000 in
theorem w_f_X5_firstFault {G : Geo} {p : Program} {l : Launch} {e : Env} {s : State} {m : MethodId} {args : Array Value} {below : List Frame} {meth : Method} {c : Code} {A : Nat → Prop} {H0 : Heap} {Q : State → Prop} (C : Cx G RX5 cX5_firstFault 2 p s m args c) {S : St}  {o : Int32 × St} (h : f_X5_firstFault S = some o) (K : KI 37 eX G A H0 cX5_firstFault p l e 3 s m args below meth c Q ((o).1) ((o).2)) : ∀ (H : Heap) (locs : List Loc) (ls : Array Slot), HX G A H0 S H locs → lv_has ls 2 [(0, .ref (adr G 2))] → W p l e (rmK 3) s m args below meth c H locs 0 0 Q (F0 m 0 ls []) := by
  obtain ⟨hx, hb, -⟩ := id C
  intro H locs ls hW hl
  unfold f_X5_firstFault at h
  refine lv_aload_n hx hb dX5_firstFault_0 rfl (lv_at hl 0 rfl) ?_
  refine lv_iconst (v := 0) hx hb dX5_firstFault_1 (by decide) ?_
  obtain ⟨r2, r2h, h⟩ := bd_some h
  refine x_backI hW (x_runV (As := [.int ((0 : Int32))]) (rest := []) C hW (c_X5_codeAt l G r2h H.size) cv_RX5_31 rv_X5 hl.1 rfl rfl ⟨by decide, by decide⟩ (Nat.le_of_ble_eq_true rfl) ⟨Nat.zero_le _, Nat.zero_le _⟩ dX5_firstFault_2) (fun H locs hW => ?_)
  refine lv_bipush (v := 108) hx hb dX5_firstFault_5 (by decide) ?_
  refine lv_icmp_eq (tgt := 12) hx hb dX5_firstFault_7 (by decide) (fun b7 => ?_) (fun b7 => ?_)
  · have h := it_t b7 h
    refine lv_aload_n hx hb dX5_firstFault_12 rfl (lv_at hl 0 rfl) ?_
    refine lv_iconst (v := 0) hx hb dX5_firstFault_13 (by decide) ?_
    refine pf_RX5_38 C hW dX5_firstFault_14 (fun H locs hW => ?_)
    obtain ⟨q17, q17h, h⟩ := bd_some h
    refine l_i_X5_firstFault_17 C  q17h ?_ _ _ _ hW (lv_sub hl [0] rfl)
    intro H locs ls hW hl
    exact w_j_X5_firstFault_55 C  h K _ _ _ hW (lv_sub hl [0] rfl)
  · have h := it_f b7 h
    refine lv_iconst (v := 0) hx hb dX5_firstFault_10 (by decide) ?_
    obtain rfl := Option.some.inj h
    exact K _ _ _ _ dX5_firstFault_11 hW
set_option maxRecDepth 100000 in
theorem c_X5_firstFault (l : Launch) (G : Geo) {S : St}  {o : Int32 × St} (h : f_X5_firstFault S = some o) : MI 37 eX G l yX5_firstFault cX5_firstFault 2 (some .int) 3 [.ref (adr G 2)] S o.1 o.2 :=
  mI_of (by decide +kernel) (Nat.le_of_ble_eq_true rfl) (fun p e s m below meth c A H0 Q C K => w_f_X5_firstFault C h K)
def i_X5_wiresFrom_4 (S : St) (x1 : Int32) (x2 : Int32) (x3 : Int32) : Option ((Int32 × Int32) ⊕ (Int32 × Int32)) :=
  if (S 2 2) ≤ x3 then (some (.inr (x2, x3))) else (bd (f_X5_codeAt S (x1 + x3)) fun r16 => if r16 = ((49 : Int32)) then (some (.inl (x2 ||| (shl32 ((1 : Int32)) x3), x3 + (1 : Int32)))) else (some (.inl (x2, x3 + (1 : Int32)))))
set_option maxHeartbeats 4000000 in
set_option maxRecDepth 100000 in
theorem w_i_X5_wiresFrom_4 {G : Geo} {p : Program} {l : Launch} {e : Env} {s : State} {m : MethodId} {args : Array Value} {below : List Frame} {meth : Method} {c : Code} {A : Nat → Prop} {H0 : Heap} {Q : State → Prop} (C : Cx G RX5 cX5_wiresFrom 4 p s m args c) {S : St} {x1 : Int32} {x2 : Int32} {x3 : Int32} {o : (Int32 × Int32) ⊕ (Int32 × Int32)} (h : i_X5_wiresFrom_4 S x1 x2 x3 = some o) (Kn : ∀ q, o = .inl q → ∀ (H : Heap) (locs : List Loc) (ls : Array Slot), HX G A H0 S H locs → lv_has ls 4 [(0, .ref (adr G 2)), (1, .int x1), (2, .int (q.1)), (3, .int (q.2))] → W p l e (rmK 1) s m args below meth c H locs 0 0 Q (F0 m 4 ls [])) (Kt : ∀ q, o = .inr q → ∀ (H : Heap) (locs : List Loc) (ls : Array Slot), HX G A H0 S H locs → lv_has ls 4 [(2, .int (q.1))] → W p l e (rmK 1) s m args below meth c H locs 0 0 Q (F0 m 36 ls [])) : ∀ (H : Heap) (locs : List Loc) (ls : Array Slot), HX G A H0 S H locs → lv_has ls 4 [(0, .ref (adr G 2)), (1, .int x1), (2, .int x2), (3, .int x3)] → W p l e (rmK 1) s m args below meth c H locs 0 0 Q (F0 m 4 ls []) := by
  obtain ⟨hx, hb, -⟩ := id C
  intro H locs ls hW hl
  unfold i_X5_wiresFrom_4 at h
  refine lv_iload_n hx hb dX5_wiresFrom_4 rfl (lv_at hl 3 rfl) ?_
  refine lv_aload_n hx hb dX5_wiresFrom_5 rfl (lv_at hl 0 rfl) ?_
  refine gf_RX5_38 C hW dX5_wiresFrom_6 ?_
  refine lv_icmp_ge (tgt := 36) hx hb dX5_wiresFrom_9 (by decide) (fun b9 => ?_) (fun b9 => ?_)
  · have h := it_t b9 h
    obtain rfl := Option.some.inj h
    exact Kt _ rfl _ _ _ hW (lv_sub hl [2] rfl)
  · have h := it_f b9 h
    refine lv_aload_n hx hb dX5_wiresFrom_12 rfl (lv_at hl 0 rfl) ?_
    refine lv_iload_n hx hb dX5_wiresFrom_13 rfl (lv_at hl 1 rfl) ?_
    refine lv_iload_n hx hb dX5_wiresFrom_14 rfl (lv_at hl 3 rfl) ?_
    refine lv_iadd hx hb dX5_wiresFrom_15 ?_
    obtain ⟨r16, r16h, h⟩ := bd_some h
    refine x_backI hW (x_runV (As := [.int (x1 + x3)]) (rest := []) C hW (c_X5_codeAt l G r16h H.size) cv_RX5_31 rv_X5 hl.1 rfl rfl ⟨by decide, by decide⟩ (Nat.le_of_ble_eq_true rfl) ⟨Nat.zero_le _, Nat.zero_le _⟩ dX5_wiresFrom_16) (fun H locs hW => ?_)
    refine lv_bipush (v := 49) hx hb dX5_wiresFrom_19 (by decide) ?_
    refine lv_icmp_ne (tgt := 30) hx hb dX5_wiresFrom_21 (by decide) (fun b21 => ?_) (fun b21 => ?_)
    · have h := it_f b21 h
      refine lv_iinc (v := (x3 + (1 : Int32))) (lv' := [(3, .int (x3 + (1 : Int32))), (0, .ref (adr G 2)), (1, .int x1), (2, .int x2)]) hx hb dX5_wiresFrom_30 hl (k := 3) rfl rfl (by decide) rfl (fun ls hl => ?_)
      refine lv_goto (tgt := 4) hx hb dX5_wiresFrom_33 (by decide) ?_
      obtain rfl := Option.some.inj h
      exact Kn _ rfl _ _ _ hW (lv_sub hl [1, 2, 3, 0] rfl)
    · have h := it_t b21 h
      refine lv_iload_n hx hb dX5_wiresFrom_24 rfl (lv_at hl 2 rfl) ?_
      refine lv_iconst (v := 1) hx hb dX5_wiresFrom_25 (by decide) ?_
      refine lv_iload_n hx hb dX5_wiresFrom_26 rfl (lv_at hl 3 rfl) ?_
      refine lv_ishl hx hb dX5_wiresFrom_27 ?_
      refine lv_ior hx hb dX5_wiresFrom_28 ?_
      refine lv_istore_n (lv' := [(2, .int (x2 ||| (shl32 ((1 : Int32)) x3))), (0, .ref (adr G 2)), (1, .int x1), (3, .int x3)]) hx hb dX5_wiresFrom_29 rfl hl (by decide) rfl (fun ls hl => ?_)
      refine lv_iinc (v := (x3 + (1 : Int32))) (lv' := [(3, .int (x3 + (1 : Int32))), (2, .int (x2 ||| (shl32 ((1 : Int32)) x3))), (0, .ref (adr G 2)), (1, .int x1)]) hx hb dX5_wiresFrom_30 hl (k := 3) rfl rfl (by decide) rfl (fun ls hl => ?_)
      refine lv_goto (tgt := 4) hx hb dX5_wiresFrom_33 (by decide) ?_
      obtain rfl := Option.some.inj h
      exact Kn _ rfl _ _ _ hW (lv_sub hl [2, 3, 1, 0] rfl)
set_option maxHeartbeats 4000000 in
set_option maxRecDepth 100000 in
theorem l_i_X5_wiresFrom_4 {G : Geo} {p : Program} {l : Launch} {e : Env} {s : State} {m : MethodId} {args : Array Value} {below : List Frame} {meth : Method} {c : Code} {A : Nat → Prop} {H0 : Heap} {Q : State → Prop} (C : Cx G RX5 cX5_wiresFrom 4 p s m args c) {S : St} {x1 : Int32} {n : Nat} {q0 : Int32 × Int32} {u : Int32 × Int32} (hq : iter (fun q : Int32 × Int32 => i_X5_wiresFrom_4 S x1 q.1 q.2) n q0 = some u) (Kt : (fun q : Int32 × Int32 => ∀ (H : Heap) (locs : List Loc) (ls : Array Slot), HX G A H0 S H locs → lv_has ls 4 [(2, .int (q.1))] → W p l e (rmK 1) s m args below meth c H locs 0 0 Q (F0 m 36 ls [])) u) : (fun q : Int32 × Int32 => ∀ (H : Heap) (locs : List Loc) (ls : Array Slot), HX G A H0 S H locs → lv_has ls 4 [(0, .ref (adr G 2)), (1, .int x1), (2, .int (q.1)), (3, .int (q.2))] → W p l e (rmK 1) s m args below meth c H locs 0 0 Q (F0 m 4 ls [])) q0 :=
  iter_W (P := fun q : Int32 × Int32 => ∀ (H : Heap) (locs : List Loc) (ls : Array Slot), HX G A H0 S H locs → lv_has ls 4 [(0, .ref (adr G 2)), (1, .int x1), (2, .int (q.1)), (3, .int (q.2))] → W p l e (rmK 1) s m args below meth c H locs 0 0 Q (F0 m 4 ls [])) (K := fun q : Int32 × Int32 => ∀ (H : Heap) (locs : List Loc) (ls : Array Slot), HX G A H0 S H locs → lv_has ls 4 [(2, .int (q.1))] → W p l e (rmK 1) s m args below meth c H locs 0 0 Q (F0 m 36 ls [])) (fun q o hit Kn Kt => w_i_X5_wiresFrom_4 C  hit Kn Kt) n q0 u hq Kt
def f_X5_wiresFrom (S : St) (a0 : Int32) : Option (Int32) :=
  bd (iter (fun q => i_X5_wiresFrom_4 S a0 q.1 q.2) BIG ((0 : Int32), (0 : Int32))) fun q4 => some q4.1
set_option maxHeartbeats 4000000 in
set_option maxRecDepth 100000 in
theorem w_f_X5_wiresFrom {G : Geo} {p : Program} {l : Launch} {e : Env} {s : State} {m : MethodId} {args : Array Value} {below : List Frame} {meth : Method} {c : Code} {A : Nat → Prop} {H0 : Heap} {Q : State → Prop} (C : Cx G RX5 cX5_wiresFrom 4 p s m args c) {S : St} {a0 : Int32} {o : Int32} (h : f_X5_wiresFrom S a0 = some o) (K : KI 37 eX G A H0 cX5_wiresFrom p l e 1 s m args below meth c Q o S) : ∀ (H : Heap) (locs : List Loc) (ls : Array Slot), HX G A H0 S H locs → lv_has ls 4 [(0, .ref (adr G 2)), (1, .int a0)] → W p l e (rmK 1) s m args below meth c H locs 0 0 Q (F0 m 0 ls []) := by
  obtain ⟨hx, hb, -⟩ := id C
  intro H locs ls hW hl
  unfold f_X5_wiresFrom at h
  refine lv_iconst (v := 0) hx hb dX5_wiresFrom_0 (by decide) ?_
  refine lv_istore_n (lv' := [(2, .int ((0 : Int32))), (0, .ref (adr G 2)), (1, .int a0)]) hx hb dX5_wiresFrom_1 rfl hl (by decide) rfl (fun ls hl => ?_)
  refine lv_iconst (v := 0) hx hb dX5_wiresFrom_2 (by decide) ?_
  refine lv_istore_n (lv' := [(3, .int ((0 : Int32))), (2, .int ((0 : Int32))), (0, .ref (adr G 2)), (1, .int a0)]) hx hb dX5_wiresFrom_3 rfl hl (by decide) rfl (fun ls hl => ?_)
  obtain ⟨q4, q4h, h⟩ := bd_some h
  refine l_i_X5_wiresFrom_4 C  q4h ?_ _ _ _ hW (lv_sub hl [2, 3, 1, 0] rfl)
  intro H locs ls hW hl
  refine lv_iload_n hx hb dX5_wiresFrom_36 rfl (lv_at hl 0 rfl) ?_
  obtain rfl := Option.some.inj h
  exact K _ _ _ _ dX5_wiresFrom_37 hW
set_option maxRecDepth 100000 in
theorem c_X5_wiresFrom (l : Launch) (G : Geo) {S : St} {a0 : Int32} {o : Int32} (h : f_X5_wiresFrom S a0 = some o) : MI 37 eX G l yX5_wiresFrom cX5_wiresFrom 4 (some .int) 1 [.ref (adr G 2), .int a0] S o S :=
  mI_of (by decide +kernel) (Nat.le_of_ble_eq_true rfl) (fun p e s m below meth c A H0 Q C K => w_f_X5_wiresFrom C h K)
def i_X5_layOut_10 (S : St) (x2 : Int32) : Option ((St × Int32) ⊕ (St × Int32)) :=
  if (S 2 2) ≤ x2 then (some (.inr (S, x2))) else (bd (f_X5_codeAt S (((1 : Int32)) + x2)) fun r27 => ck (okx x2 5) <| ck (okx x2 5) <| some (.inl (up (up S 22 (ix x2) (r27 - ((48 : Int32)))) 23 (ix x2) ((0 : Int32)), x2 + (1 : Int32))))
set_option maxHeartbeats 4000000 in
set_option maxRecDepth 100000 in
theorem w_i_X5_layOut_10 {G : Geo} {p : Program} {l : Launch} {e : Env} {s : State} {m : MethodId} {args : Array Value} {below : List Frame} {meth : Method} {c : Code} {A : Nat → Prop} {H0 : Heap} {Q : State → Prop} (C : Cx G RX5 cX5_layOut 4 p s m args c) {S : St} {x2 : Int32} {o : (St × Int32) ⊕ (St × Int32)} (h : i_X5_layOut_10 S x2 = some o) (Kn : ∀ q, o = .inl q → ∀ (H : Heap) (locs : List Loc) (ls : Array Slot), HX G A H0 q.1 H locs → lv_has ls 4 [(0, .ref (adr G 2)), (1, .ref (adr G 1)), (2, .int (q.2))] → W p l e (rmK 2) s m args below meth c H locs 0 0 Q (F0 m 10 ls [])) (Kt : ∀ q, o = .inr q → ∀ (H : Heap) (locs : List Loc) (ls : Array Slot), HX G A H0 q.1 H locs → lv_has ls 4 [(0, .ref (adr G 2)), (1, .ref (adr G 1))] → W p l e (rmK 2) s m args below meth c H locs 0 0 Q (F0 m 47 ls [])) : ∀ (H : Heap) (locs : List Loc) (ls : Array Slot), HX G A H0 S H locs → lv_has ls 4 [(0, .ref (adr G 2)), (1, .ref (adr G 1)), (2, .int x2)] → W p l e (rmK 2) s m args below meth c H locs 0 0 Q (F0 m 10 ls []) := by
  obtain ⟨hx, hb, -⟩ := id C
  intro H locs ls hW hl
  unfold i_X5_layOut_10 at h
  refine lv_iload_n hx hb dX5_layOut_10 rfl (lv_at hl 2 rfl) ?_
  refine lv_aload_n hx hb dX5_layOut_11 rfl (lv_at hl 0 rfl) ?_
  refine gf_RX5_38 C hW dX5_layOut_12 ?_
  refine lv_icmp_ge (tgt := 47) hx hb dX5_layOut_15 (by decide) (fun b15 => ?_) (fun b15 => ?_)
  · have h := it_t b15 h
    obtain rfl := Option.some.inj h
    exact Kt _ rfl _ _ _ hW (lv_sub hl [0, 1] rfl)
  · have h := it_f b15 h
    refine lv_aload_n hx hb dX5_layOut_18 rfl (lv_at hl 1 rfl) ?_
    refine gf_RX5_60 C hW dX5_layOut_19 ?_
    refine lv_iload_n hx hb dX5_layOut_22 rfl (lv_at hl 2 rfl) ?_
    refine lv_aload_n hx hb dX5_layOut_23 rfl (lv_at hl 0 rfl) ?_
    refine lv_iconst (v := 1) hx hb dX5_layOut_24 (by decide) ?_
    refine lv_iload_n hx hb dX5_layOut_25 rfl (lv_at hl 2 rfl) ?_
    refine lv_iadd hx hb dX5_layOut_26 ?_
    obtain ⟨r27, r27h, h⟩ := bd_some h
    refine x_backI hW (x_runV (As := [.int (((1 : Int32)) + x2)]) (rest := [.int x2, .ref (adr G 22)]) C hW (c_X5_codeAt l G r27h H.size) cv_RX5_31 rv_X5 hl.1 rfl rfl ⟨by decide, by decide⟩ (Nat.le_of_ble_eq_true rfl) ⟨Nat.zero_le _, Nat.zero_le _⟩ dX5_layOut_27) (fun H locs hW => ?_)
    refine lv_bipush (v := 48) hx hb dX5_layOut_30 (by decide) ?_
    refine lv_isub hx hb dX5_layOut_32 ?_
    obtain ⟨g33, h⟩ := ck_some h
    refine x_iast C hW (k := 22) (n := 5) (by decide) (fun _ => rfl) g33 dX5_layOut_33 (fun H locs hW => ?_)
    refine lv_aload_n hx hb dX5_layOut_34 rfl (lv_at hl 1 rfl) ?_
    refine gf_RX5_63 C hW dX5_layOut_35 ?_
    refine lv_iload_n hx hb dX5_layOut_38 rfl (lv_at hl 2 rfl) ?_
    refine lv_iconst (v := 0) hx hb dX5_layOut_39 (by decide) ?_
    obtain ⟨g40, h⟩ := ck_some h
    refine x_iast C hW (k := 23) (n := 5) (by decide) (fun _ => rfl) g40 dX5_layOut_40 (fun H locs hW => ?_)
    refine lv_iinc (v := (x2 + (1 : Int32))) (lv' := [(2, .int (x2 + (1 : Int32))), (0, .ref (adr G 2)), (1, .ref (adr G 1))]) hx hb dX5_layOut_41 hl (k := 2) rfl rfl (by decide) rfl (fun ls hl => ?_)
    refine lv_goto (tgt := 10) hx hb dX5_layOut_44 (by decide) ?_
    obtain rfl := Option.some.inj h
    exact Kn _ rfl _ _ _ hW (lv_sub hl [1, 2, 0] rfl)
set_option maxHeartbeats 4000000 in
set_option maxRecDepth 100000 in
theorem l_i_X5_layOut_10 {G : Geo} {p : Program} {l : Launch} {e : Env} {s : State} {m : MethodId} {args : Array Value} {below : List Frame} {meth : Method} {c : Code} {A : Nat → Prop} {H0 : Heap} {Q : State → Prop} (C : Cx G RX5 cX5_layOut 4 p s m args c)  {n : Nat} {q0 : St × Int32} {u : St × Int32} (hq : iter (fun q : St × Int32 => i_X5_layOut_10 q.1 q.2) n q0 = some u) (Kt : (fun q : St × Int32 => ∀ (H : Heap) (locs : List Loc) (ls : Array Slot), HX G A H0 q.1 H locs → lv_has ls 4 [(0, .ref (adr G 2)), (1, .ref (adr G 1))] → W p l e (rmK 2) s m args below meth c H locs 0 0 Q (F0 m 47 ls [])) u) : (fun q : St × Int32 => ∀ (H : Heap) (locs : List Loc) (ls : Array Slot), HX G A H0 q.1 H locs → lv_has ls 4 [(0, .ref (adr G 2)), (1, .ref (adr G 1)), (2, .int (q.2))] → W p l e (rmK 2) s m args below meth c H locs 0 0 Q (F0 m 10 ls [])) q0 :=
  iter_W (P := fun q : St × Int32 => ∀ (H : Heap) (locs : List Loc) (ls : Array Slot), HX G A H0 q.1 H locs → lv_has ls 4 [(0, .ref (adr G 2)), (1, .ref (adr G 1)), (2, .int (q.2))] → W p l e (rmK 2) s m args below meth c H locs 0 0 Q (F0 m 10 ls [])) (K := fun q : St × Int32 => ∀ (H : Heap) (locs : List Loc) (ls : Array Slot), HX G A H0 q.1 H locs → lv_has ls 4 [(0, .ref (adr G 2)), (1, .ref (adr G 1))] → W p l e (rmK 2) s m args below meth c H locs 0 0 Q (F0 m 47 ls [])) (fun q o hit Kn Kt => w_i_X5_layOut_10 C  hit Kn Kt) n q0 u hq Kt
def i_X5_layOut_57 (S : St) (x2 : Int32) : Option ((St × Int32) ⊕ (St × Int32)) :=
  if (S 2 3) ≤ x2 then (some (.inr (S, x2))) else (bd (f_X5_placeOf S x2) fun r67 => bd (f_X5_codeAt S (r67 + ((1 : Int32)))) fun r80 => bd (f_X5_kindOf r80) fun r83 => ck (okx x2 5) <| bd (f_X5_codeAt (up S 24 (ix x2) r83) (r67 + ((2 : Int32)))) fun r96 => ck (okx x2 5) <| bd (f_X5_wiresFrom (up (up S 24 (ix x2) r83) 25 (ix x2) (r96 - ((48 : Int32)))) (r67 + ((3 : Int32)))) fun r112 => ck (okx x2 5) <| ck (okx x2 5) <| some (.inl (up (up (up (up S 24 (ix x2) r83) 25 (ix x2) (r96 - ((48 : Int32)))) 26 (ix x2) r112) 27 (ix x2) ((0 : Int32)), x2 + (1 : Int32))))
set_option maxHeartbeats 4000000 in
set_option maxRecDepth 100000 in
theorem w_i_X5_layOut_57 {G : Geo} {p : Program} {l : Launch} {e : Env} {s : State} {m : MethodId} {args : Array Value} {below : List Frame} {meth : Method} {c : Code} {A : Nat → Prop} {H0 : Heap} {Q : State → Prop} (C : Cx G RX5 cX5_layOut 4 p s m args c) {S : St} {x2 : Int32} {o : (St × Int32) ⊕ (St × Int32)} (h : i_X5_layOut_57 S x2 = some o) (Kn : ∀ q, o = .inl q → ∀ (H : Heap) (locs : List Loc) (ls : Array Slot), HX G A H0 q.1 H locs → lv_has ls 4 [(0, .ref (adr G 2)), (1, .ref (adr G 1)), (2, .int (q.2))] → W p l e (rmK 2) s m args below meth c H locs 0 0 Q (F0 m 57 ls [])) (Kt : ∀ q, o = .inr q → ∀ (H : Heap) (locs : List Loc) (ls : Array Slot), HX G A H0 q.1 H locs → lv_has ls 4 [] → W p l e (rmK 2) s m args below meth c H locs 0 0 Q (F0 m 129 ls [])) : ∀ (H : Heap) (locs : List Loc) (ls : Array Slot), HX G A H0 S H locs → lv_has ls 4 [(0, .ref (adr G 2)), (1, .ref (adr G 1)), (2, .int x2)] → W p l e (rmK 2) s m args below meth c H locs 0 0 Q (F0 m 57 ls []) := by
  obtain ⟨hx, hb, -⟩ := id C
  intro H locs ls hW hl
  unfold i_X5_layOut_57 at h
  refine lv_iload_n hx hb dX5_layOut_57 rfl (lv_at hl 2 rfl) ?_
  refine lv_aload_n hx hb dX5_layOut_58 rfl (lv_at hl 0 rfl) ?_
  refine gf_RX5_45 C hW dX5_layOut_59 ?_
  refine lv_icmp_ge (tgt := 129) hx hb dX5_layOut_62 (by decide) (fun b62 => ?_) (fun b62 => ?_)
  · have h := it_t b62 h
    obtain rfl := Option.some.inj h
    exact Kt _ rfl _ _ _ hW (lv_sub hl [] rfl)
  · have h := it_f b62 h
    refine lv_aload_n hx hb dX5_layOut_65 rfl (lv_at hl 0 rfl) ?_
    refine lv_iload_n hx hb dX5_layOut_66 rfl (lv_at hl 2 rfl) ?_
    obtain ⟨r67, r67h, h⟩ := bd_some h
    refine x_backI hW (x_runV (As := [.int x2]) (rest := []) C hW (c_X5_placeOf l G r67h H.size) cv_RX5_48 rv_X5 hl.1 rfl rfl ⟨by decide, by decide⟩ (Nat.le_of_ble_eq_true rfl) ⟨Nat.zero_le _, Nat.zero_le _⟩ dX5_layOut_67) (fun H locs hW => ?_)
    refine lv_istore_n (lv' := [(3, .int r67), (0, .ref (adr G 2)), (1, .ref (adr G 1)), (2, .int x2)]) hx hb dX5_layOut_70 rfl hl (by decide) rfl (fun ls hl => ?_)
    refine lv_aload_n hx hb dX5_layOut_71 rfl (lv_at hl 2 rfl) ?_
    refine gf_RX5_67 C hW dX5_layOut_72 ?_
    refine lv_iload_n hx hb dX5_layOut_75 rfl (lv_at hl 3 rfl) ?_
    refine lv_aload_n hx hb dX5_layOut_76 rfl (lv_at hl 1 rfl) ?_
    refine lv_iload_n hx hb dX5_layOut_77 rfl (lv_at hl 0 rfl) ?_
    refine lv_iconst (v := 1) hx hb dX5_layOut_78 (by decide) ?_
    refine lv_iadd hx hb dX5_layOut_79 ?_
    obtain ⟨r80, r80h, h⟩ := bd_some h
    refine x_backI hW (x_runV (As := [.int (r67 + ((1 : Int32)))]) (rest := [.int x2, .ref (adr G 24)]) C hW (c_X5_codeAt l G r80h H.size) cv_RX5_31 rv_X5 hl.1 rfl rfl ⟨by decide, by decide⟩ (Nat.le_of_ble_eq_true rfl) ⟨Nat.zero_le _, Nat.zero_le _⟩ dX5_layOut_80) (fun H locs hW => ?_)
    obtain ⟨r83, r83h, h⟩ := bd_some h
    refine x_backI hW (x_runS (As := [.int r80]) (rest := [.int x2, .ref (adr G 24)]) C hW (c_X5_kindOf l G (S := S) r83h H.size) cs_RX5_54 hl.1 rfl rfl ⟨by decide, by decide⟩ (Nat.le_of_ble_eq_true rfl) ⟨Nat.zero_le _, Nat.zero_le _⟩ dX5_layOut_83) (fun H locs hW => ?_)
    obtain ⟨g86, h⟩ := ck_some h
    refine x_iast C hW (k := 24) (n := 5) (by decide) (fun _ => rfl) g86 dX5_layOut_86 (fun H locs hW => ?_)
    refine lv_aload_n hx hb dX5_layOut_87 rfl (lv_at hl 2 rfl) ?_
    refine gf_RX5_70 C hW dX5_layOut_88 ?_
    refine lv_iload_n hx hb dX5_layOut_91 rfl (lv_at hl 3 rfl) ?_
    refine lv_aload_n hx hb dX5_layOut_92 rfl (lv_at hl 1 rfl) ?_
    refine lv_iload_n hx hb dX5_layOut_93 rfl (lv_at hl 0 rfl) ?_
    refine lv_iconst (v := 2) hx hb dX5_layOut_94 (by decide) ?_
    refine lv_iadd hx hb dX5_layOut_95 ?_
    obtain ⟨r96, r96h, h⟩ := bd_some h
    refine x_backI hW (x_runV (As := [.int (r67 + ((2 : Int32)))]) (rest := [.int x2, .ref (adr G 25)]) C hW (c_X5_codeAt l G r96h H.size) cv_RX5_31 rv_X5 hl.1 rfl rfl ⟨by decide, by decide⟩ (Nat.le_of_ble_eq_true rfl) ⟨Nat.zero_le _, Nat.zero_le _⟩ dX5_layOut_96) (fun H locs hW => ?_)
    refine lv_bipush (v := 48) hx hb dX5_layOut_99 (by decide) ?_
    refine lv_isub hx hb dX5_layOut_101 ?_
    obtain ⟨g102, h⟩ := ck_some h
    refine x_iast C hW (k := 25) (n := 5) (by decide) (fun _ => rfl) g102 dX5_layOut_102 (fun H locs hW => ?_)
    refine lv_aload_n hx hb dX5_layOut_103 rfl (lv_at hl 2 rfl) ?_
    refine gf_RX5_73 C hW dX5_layOut_104 ?_
    refine lv_iload_n hx hb dX5_layOut_107 rfl (lv_at hl 3 rfl) ?_
    refine lv_aload_n hx hb dX5_layOut_108 rfl (lv_at hl 1 rfl) ?_
    refine lv_iload_n hx hb dX5_layOut_109 rfl (lv_at hl 0 rfl) ?_
    refine lv_iconst (v := 3) hx hb dX5_layOut_110 (by decide) ?_
    refine lv_iadd hx hb dX5_layOut_111 ?_
    obtain ⟨r112, r112h, h⟩ := bd_some h
    refine x_backI hW (x_runV (As := [.int (r67 + ((3 : Int32)))]) (rest := [.int x2, .ref (adr G 26)]) C hW (c_X5_wiresFrom l G r112h H.size) cv_RX5_76 rv_X5 hl.1 rfl rfl ⟨by decide, by decide⟩ (Nat.le_of_ble_eq_true rfl) ⟨Nat.zero_le _, Nat.zero_le _⟩ dX5_layOut_112) (fun H locs hW => ?_)
    obtain ⟨g115, h⟩ := ck_some h
    refine x_iast C hW (k := 26) (n := 5) (by decide) (fun _ => rfl) g115 dX5_layOut_115 (fun H locs hW => ?_)
    refine lv_aload_n hx hb dX5_layOut_116 rfl (lv_at hl 2 rfl) ?_
    refine gf_RX5_79 C hW dX5_layOut_117 ?_
    refine lv_iload_n hx hb dX5_layOut_120 rfl (lv_at hl 3 rfl) ?_
    refine lv_iconst (v := 0) hx hb dX5_layOut_121 (by decide) ?_
    obtain ⟨g122, h⟩ := ck_some h
    refine x_iast C hW (k := 27) (n := 5) (by decide) (fun _ => rfl) g122 dX5_layOut_122 (fun H locs hW => ?_)
    refine lv_iinc (v := (x2 + (1 : Int32))) (lv' := [(2, .int (x2 + (1 : Int32))), (3, .int r67), (0, .ref (adr G 2)), (1, .ref (adr G 1))]) hx hb dX5_layOut_123 hl (k := 3) rfl rfl (by decide) rfl (fun ls hl => ?_)
    refine lv_goto (tgt := 57) hx hb dX5_layOut_126 (by decide) ?_
    obtain rfl := Option.some.inj h
    exact Kn _ rfl _ _ _ hW (lv_sub hl [2, 3, 0] rfl)
set_option maxHeartbeats 4000000 in
set_option maxRecDepth 100000 in
theorem l_i_X5_layOut_57 {G : Geo} {p : Program} {l : Launch} {e : Env} {s : State} {m : MethodId} {args : Array Value} {below : List Frame} {meth : Method} {c : Code} {A : Nat → Prop} {H0 : Heap} {Q : State → Prop} (C : Cx G RX5 cX5_layOut 4 p s m args c)  {n : Nat} {q0 : St × Int32} {u : St × Int32} (hq : iter (fun q : St × Int32 => i_X5_layOut_57 q.1 q.2) n q0 = some u) (Kt : (fun q : St × Int32 => ∀ (H : Heap) (locs : List Loc) (ls : Array Slot), HX G A H0 q.1 H locs → lv_has ls 4 [] → W p l e (rmK 2) s m args below meth c H locs 0 0 Q (F0 m 129 ls [])) u) : (fun q : St × Int32 => ∀ (H : Heap) (locs : List Loc) (ls : Array Slot), HX G A H0 q.1 H locs → lv_has ls 4 [(0, .ref (adr G 2)), (1, .ref (adr G 1)), (2, .int (q.2))] → W p l e (rmK 2) s m args below meth c H locs 0 0 Q (F0 m 57 ls [])) q0 :=
  iter_W (P := fun q : St × Int32 => ∀ (H : Heap) (locs : List Loc) (ls : Array Slot), HX G A H0 q.1 H locs → lv_has ls 4 [(0, .ref (adr G 2)), (1, .ref (adr G 1)), (2, .int (q.2))] → W p l e (rmK 2) s m args below meth c H locs 0 0 Q (F0 m 57 ls [])) (K := fun q : St × Int32 => ∀ (H : Heap) (locs : List Loc) (ls : Array Slot), HX G A H0 q.1 H locs → lv_has ls 4 [] → W p l e (rmK 2) s m args below meth c H locs 0 0 Q (F0 m 129 ls [])) (fun q o hit Kn Kt => w_i_X5_layOut_57 C  hit Kn Kt) n q0 u hq Kt
def f_X5_layOut (S : St) : Option (St) :=
  bd (iter (fun q => i_X5_layOut_10 q.1 q.2) BIG (up S 1 0 (S 2 2), (0 : Int32))) fun q10 => bd (iter (fun q => i_X5_layOut_57 q.1 q.2) BIG (up q10.1 1 3 (q10.1 2 3), (0 : Int32))) fun q57 => some q57.1
set_option maxHeartbeats 4000000 in
set_option maxRecDepth 100000 in
theorem w_f_X5_layOut {G : Geo} {p : Program} {l : Launch} {e : Env} {s : State} {m : MethodId} {args : Array Value} {below : List Frame} {meth : Method} {c : Code} {A : Nat → Prop} {H0 : Heap} {Q : State → Prop} (C : Cx G RX5 cX5_layOut 4 p s m args c) {S : St}  {o : St} (h : f_X5_layOut S = some o) (K : KV 37 eX G A H0 cX5_layOut p l e 2 s m args below meth c Q o) : ∀ (H : Heap) (locs : List Loc) (ls : Array Slot), HX G A H0 S H locs → lv_has ls 4 [(0, .ref (adr G 2)), (1, .ref (adr G 1))] → W p l e (rmK 2) s m args below meth c H locs 0 0 Q (F0 m 0 ls []) := by
  obtain ⟨hx, hb, -⟩ := id C
  intro H locs ls hW hl
  unfold f_X5_layOut at h
  refine lv_aload_n hx hb dX5_layOut_0 rfl (lv_at hl 1 rfl) ?_
  refine lv_aload_n hx hb dX5_layOut_1 rfl (lv_at hl 0 rfl) ?_
  refine gf_RX5_38 C hW dX5_layOut_2 ?_
  refine pf_RX5_57 C hW dX5_layOut_5 (fun H locs hW => ?_)
  refine lv_iconst (v := 0) hx hb dX5_layOut_8 (by decide) ?_
  refine lv_istore_n (lv' := [(2, .int ((0 : Int32))), (0, .ref (adr G 2)), (1, .ref (adr G 1))]) hx hb dX5_layOut_9 rfl hl (by decide) rfl (fun ls hl => ?_)
  obtain ⟨q10, q10h, h⟩ := bd_some h
  refine l_i_X5_layOut_10 C  q10h ?_ _ _ _ hW (lv_sub hl [1, 2, 0] rfl)
  intro H locs ls hW hl
  refine lv_aload_n hx hb dX5_layOut_47 rfl (lv_at hl 1 rfl) ?_
  refine lv_aload_n hx hb dX5_layOut_48 rfl (lv_at hl 0 rfl) ?_
  refine gf_RX5_45 C hW dX5_layOut_49 ?_
  refine pf_RX5_66 C hW dX5_layOut_52 (fun H locs hW => ?_)
  refine lv_iconst (v := 0) hx hb dX5_layOut_55 (by decide) ?_
  refine lv_istore_n (lv' := [(2, .int ((0 : Int32))), (0, .ref (adr G 2)), (1, .ref (adr G 1))]) hx hb dX5_layOut_56 rfl hl (by decide) rfl (fun ls hl => ?_)
  obtain ⟨q57, q57h, h⟩ := bd_some h
  refine l_i_X5_layOut_57 C  q57h ?_ _ _ _ hW (lv_sub hl [1, 2, 0] rfl)
  intro H locs ls hW hl
  obtain rfl := Option.some.inj h
  exact K _ _ _ _ dX5_layOut_129 hW
set_option maxRecDepth 100000 in
theorem c_X5_layOut (l : Launch) (G : Geo) {S : St}  {o : St} (h : f_X5_layOut S = some o) : MV 37 eX G l yX5_layOut cX5_layOut 4 none 2 [.ref (adr G 2), .ref (adr G 1)] S o :=
  mV_of (by decide +kernel) (Nat.le_of_ble_eq_true rfl) (fun p e s m below meth c A H0 Q C K => w_f_X5_layOut C h K)
def i_X5_take_13 (S : St) (x1 : Nat) (x2 : Int32) (x4 : Int32) : Option ((St × Int32) ⊕ (St × Int32)) :=
  if (S 2 1) ≤ x4 then (some (.inr (S, x4))) else (bd (f_X4_at S x1 (x2 + x4)) fun r33 => ck (okx x4 60) <| some (.inl (up S 28 (ix x4) r33, x4 + (1 : Int32))))
set_option maxHeartbeats 4000000 in
set_option maxRecDepth 100000 in
theorem w_i_X5_take_13 {G : Geo} {p : Program} {l : Launch} {e : Env} {s : State} {m : MethodId} {args : Array Value} {below : List Frame} {meth : Method} {c : Code} {A : Nat → Prop} {H0 : Heap} {Q : State → Prop} (C : Cx G RX5 cX5_take 5 p s m args c) {S : St} {x1 : Nat} {x2 : Int32} {x4 : Int32} {o : (St × Int32) ⊕ (St × Int32)} (hx1 : shX x1) (h : i_X5_take_13 S x1 x2 x4 = some o) (Kn : ∀ q, o = .inl q → ∀ (H : Heap) (locs : List Loc) (ls : Array Slot), HX G A H0 q.1 H locs → lv_has ls 5 [(0, .ref (adr G 2)), (1, .ref (adr G x1)), (2, .int x2), (4, .int (q.2))] → W p l e (rmK 2) s m args below meth c H locs 0 0 Q (F0 m 13 ls [])) (Kt : ∀ q, o = .inr q → ∀ (H : Heap) (locs : List Loc) (ls : Array Slot), HX G A H0 q.1 H locs → lv_has ls 5 [] → W p l e (rmK 2) s m args below meth c H locs 0 0 Q (F0 m 43 ls [])) : ∀ (H : Heap) (locs : List Loc) (ls : Array Slot), HX G A H0 S H locs → lv_has ls 5 [(0, .ref (adr G 2)), (1, .ref (adr G x1)), (2, .int x2), (4, .int x4)] → W p l e (rmK 2) s m args below meth c H locs 0 0 Q (F0 m 13 ls []) := by
  obtain ⟨hx, hb, -⟩ := id C
  intro H locs ls hW hl
  unfold i_X5_take_13 at h
  refine lv_iload hx hb dX5_take_13 (lv_at hl 3 rfl) ?_
  refine lv_aload_n hx hb dX5_take_15 rfl (lv_at hl 0 rfl) ?_
  refine gf_RX5_21 C hW dX5_take_16 ?_
  refine lv_icmp_ge (tgt := 43) hx hb dX5_take_19 (by decide) (fun b19 => ?_) (fun b19 => ?_)
  · have h := it_t b19 h
    obtain rfl := Option.some.inj h
    exact Kt _ rfl _ _ _ hW (lv_sub hl [] rfl)
  · have h := it_f b19 h
    refine lv_aload_n hx hb dX5_take_22 rfl (lv_at hl 0 rfl) ?_
    refine gf_RX5_9 C hW dX5_take_23 ?_
    refine lv_iload hx hb dX5_take_26 (lv_at hl 3 rfl) ?_
    refine lv_aload_n hx hb dX5_take_28 rfl (lv_at hl 1 rfl) ?_
    refine lv_iload_n hx hb dX5_take_29 rfl (lv_at hl 2 rfl) ?_
    refine lv_iload hx hb dX5_take_30 (lv_at hl 3 rfl) ?_
    refine lv_iadd hx hb dX5_take_32 ?_
    obtain ⟨r33, r33h, h⟩ := bd_some h
    refine x_backI hW (x_runV (As := [.int (x2 + x4)]) (rest := [.int x4, .ref (adr G 28)]) C hW (c_X4_at l G r33h H.size) cv_RX5_25 (rv_X4 hx1) hl.1 rfl rfl ⟨by decide, by decide⟩ (Nat.le_of_ble_eq_true rfl) ⟨Nat.zero_le _, Nat.zero_le _⟩ dX5_take_33) (fun H locs hW => ?_)
    obtain ⟨g36, h⟩ := ck_some h
    refine x_iast C hW (k := 28) (n := 60) (by decide) (fun _ => rfl) g36 dX5_take_36 (fun H locs hW => ?_)
    refine lv_iinc (v := (x4 + (1 : Int32))) (lv' := [(4, .int (x4 + (1 : Int32))), (0, .ref (adr G 2)), (1, .ref (adr G x1)), (2, .int x2)]) hx hb dX5_take_37 hl (k := 3) rfl rfl (by decide) rfl (fun ls hl => ?_)
    refine lv_goto (tgt := 13) hx hb dX5_take_40 (by decide) ?_
    obtain rfl := Option.some.inj h
    exact Kn _ rfl _ _ _ hW (lv_sub hl [1, 2, 3, 0] rfl)
set_option maxHeartbeats 4000000 in
set_option maxRecDepth 100000 in
theorem l_i_X5_take_13 {G : Geo} {p : Program} {l : Launch} {e : Env} {s : State} {m : MethodId} {args : Array Value} {below : List Frame} {meth : Method} {c : Code} {A : Nat → Prop} {H0 : Heap} {Q : State → Prop} (C : Cx G RX5 cX5_take 5 p s m args c) {x1 : Nat} {x2 : Int32} {n : Nat} {q0 : St × Int32} {u : St × Int32} (hx1 : shX x1) (hq : iter (fun q : St × Int32 => i_X5_take_13 q.1 x1 x2 q.2) n q0 = some u) (Kt : (fun q : St × Int32 => ∀ (H : Heap) (locs : List Loc) (ls : Array Slot), HX G A H0 q.1 H locs → lv_has ls 5 [] → W p l e (rmK 2) s m args below meth c H locs 0 0 Q (F0 m 43 ls [])) u) : (fun q : St × Int32 => ∀ (H : Heap) (locs : List Loc) (ls : Array Slot), HX G A H0 q.1 H locs → lv_has ls 5 [(0, .ref (adr G 2)), (1, .ref (adr G x1)), (2, .int x2), (4, .int (q.2))] → W p l e (rmK 2) s m args below meth c H locs 0 0 Q (F0 m 13 ls [])) q0 :=
  iter_W (P := fun q : St × Int32 => ∀ (H : Heap) (locs : List Loc) (ls : Array Slot), HX G A H0 q.1 H locs → lv_has ls 5 [(0, .ref (adr G 2)), (1, .ref (adr G x1)), (2, .int x2), (4, .int (q.2))] → W p l e (rmK 2) s m args below meth c H locs 0 0 Q (F0 m 13 ls [])) (K := fun q : St × Int32 => ∀ (H : Heap) (locs : List Loc) (ls : Array Slot), HX G A H0 q.1 H locs → lv_has ls 5 [] → W p l e (rmK 2) s m args below meth c H locs 0 0 Q (F0 m 43 ls [])) (fun q o hit Kn Kt => w_i_X5_take_13 C hx1 hit Kn Kt) n q0 u hq Kt
def f_X5_take (S : St) (a0 : Nat) (a1 : Int32) (a2 : Int32) : Option (St) :=
  ck (shX a0) <| bd (f_J9_min_7cf53 a2 ((60 : Int32))) fun r4 => bd (iter (fun q => i_X5_take_13 q.1 a0 a1 q.2) BIG (up S 2 1 r4, (0 : Int32))) fun q13 => some q13.1
set_option maxHeartbeats 4000000 in
set_option maxRecDepth 100000 in
theorem w_f_X5_take {G : Geo} {p : Program} {l : Launch} {e : Env} {s : State} {m : MethodId} {args : Array Value} {below : List Frame} {meth : Method} {c : Code} {A : Nat → Prop} {H0 : Heap} {Q : State → Prop} (C : Cx G RX5 cX5_take 5 p s m args c) {S : St} {a0 : Nat} {a1 : Int32} {a2 : Int32} {o : St} (h : f_X5_take S a0 a1 a2 = some o) (K : KV 37 eX G A H0 cX5_take p l e 2 s m args below meth c Q o) : ∀ (H : Heap) (locs : List Loc) (ls : Array Slot), HX G A H0 S H locs → lv_has ls 5 [(0, .ref (adr G 2)), (1, .ref (adr G a0)), (2, .int a1), (3, .int a2)] → W p l e (rmK 2) s m args below meth c H locs 0 0 Q (F0 m 0 ls []) := by
  obtain ⟨hx, hb, -⟩ := id C
  intro H locs ls hW hl
  unfold f_X5_take at h
  obtain ⟨ha0, h⟩ := ck_some h
  refine lv_aload_n hx hb dX5_take_0 rfl (lv_at hl 0 rfl) ?_
  refine lv_iload_n hx hb dX5_take_1 rfl (lv_at hl 3 rfl) ?_
  refine lv_bipush (v := 60) hx hb dX5_take_2 (by decide) ?_
  obtain ⟨r4, r4h, h⟩ := bd_some h
  refine x_backI hW (x_runS (As := [.int a2, .int ((60 : Int32))]) (rest := [.ref (adr G 2)]) C hW (c_J9_min_7cf53 l G (S := S) r4h H.size) cs_RX5_15 hl.1 rfl rfl ⟨by decide, by decide⟩ (Nat.le_of_ble_eq_true rfl) ⟨Nat.zero_le _, Nat.zero_le _⟩ dX5_take_4) (fun H locs hW => ?_)
  refine pf_RX5_21 C hW dX5_take_7 (fun H locs hW => ?_)
  refine lv_iconst (v := 0) hx hb dX5_take_10 (by decide) ?_
  refine lv_istore (lv' := [(4, .int ((0 : Int32))), (0, .ref (adr G 2)), (1, .ref (adr G a0)), (2, .int a1), (3, .int a2)]) hx hb dX5_take_11 hl (by decide) rfl (fun ls hl => ?_)
  obtain ⟨q13, q13h, h⟩ := bd_some h
  refine l_i_X5_take_13 C ha0 q13h ?_ _ _ _ hW (lv_sub hl [1, 2, 3, 0] rfl)
  intro H locs ls hW hl
  obtain rfl := Option.some.inj h
  exact K _ _ _ _ dX5_take_43 hW
set_option maxRecDepth 100000 in
theorem c_X5_take (l : Launch) (G : Geo) {S : St} {a0 : Nat} {a1 : Int32} {a2 : Int32} {o : St} (h : f_X5_take S a0 a1 a2 = some o) : MV 37 eX G l yX5_take cX5_take 5 none 2 [.ref (adr G 2), .ref (adr G a0), .int a1, .int a2] S o :=
  mV_of (by decide +kernel) (Nat.le_of_ble_eq_true rfl) (fun p e s m below meth c A H0 Q C K => w_f_X5_take C h K)
