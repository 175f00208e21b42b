def f_X7_press (S : St) (a0 : Int32) (a1 : Int32) : Option (Int32 × St) :=
  bd (f_X7_isSwitch S a0) fun r2 => if r2 = true then (bd (f_X7_within a1 ((1 : Int32)) ((99 : Int32))) fun r14 => if r14 = true then (bd (f_X7_turnsAll S a0 a1) fun r26 => ck (okx a0 5) <| ck (okx a0 5) <| bd (f_X7_darkNow (up (up r26 9 (ix a0) ((r26 9 (ix a0)) + a1)) 0 7 (((up r26 9 (ix a0) ((r26 9 (ix a0)) + a1)) 0 7) + a1))) fun r50 => some (r50, up (up r26 9 (ix a0) ((r26 9 (ix a0)) + a1)) 0 7 (((up r26 9 (ix a0) ((r26 9 (ix a0)) + a1)) 0 7) + a1))) else (some ((-2 : Int32), S))) else (some ((-1 : Int32), S))
set_option maxHeartbeats 4000000 in
set_option maxRecDepth 100000 in
theorem w_f_X7_press {G : Geo} {p : Program} {l : Launch} {e : Env} {s : State} {m : MethodId} {args : Array Value} {below : List Frame} {meth : Method} {c : Code} {A : Nat → Prop} {H0 : Heap} {Q : State → Prop} (C : Cx G RX7 cX7_press 3 p s m args c) {S : St} {a0 : Int32} {a1 : Int32} {o : Int32 × St} (h : f_X7_press S a0 a1 = some o) (K : KI 18 eM G A H0 cX7_press p l e 2 s m args below meth c Q ((o).1) ((o).2)) : ∀ (H : Heap) (locs : List Loc) (ls : Array Slot), HM G A H0 S H locs → lv_has ls 3 [(0, .ref (adr G 0)), (1, .int a0), (2, .int a1)] → W p l e (rmK 2) s m args below meth c H locs 0 0 Q (F0 m 0 ls []) := by
  obtain ⟨hx, hb, -⟩ := id C
  intro H locs ls hW hl
  unfold f_X7_press at h
  refine lv_aload_n hx hb dX7_press_0 rfl (lv_at hl 0 rfl) ?_
  refine lv_iload_n hx hb dX7_press_1 rfl (lv_at hl 1 rfl) ?_
  obtain ⟨r2, r2h, h⟩ := bd_some h
  refine x_backI hW (x_runV (As := [.int a0]) (rest := []) C hW (c_X7_isSwitch l G r2h H.size) cv_RX7_133 rv_X7 hl.1 rfl rfl ⟨by decide, by decide⟩ (Nat.le_of_ble_eq_true rfl) ⟨Nat.zero_le _, Nat.zero_le _⟩ dX7_press_2) (fun H locs hW => ?_)
  refine z_if_ne (tgt := 10) hx hb dX7_press_5 (by decide) (fun b5 => ?_) (fun b5 => ?_)
  · have h := it_t b5 h
    refine lv_iload_n hx hb dX7_press_10 rfl (lv_at hl 2 rfl) ?_
    refine lv_iconst (v := 1) hx hb dX7_press_11 (by decide) ?_
    refine lv_bipush (v := 99) hx hb dX7_press_12 (by decide) ?_
    obtain ⟨r14, r14h, h⟩ := bd_some h
    refine x_backI hW (x_runS (As := [.int a1, .int ((1 : Int32)), .int ((99 : Int32))]) (rest := []) C hW (c_X7_within l G (S := S) r14h H.size) cs_RX7_67 hl.1 rfl rfl ⟨by decide, by decide⟩ (Nat.le_of_ble_eq_true rfl) ⟨Nat.zero_le _, Nat.zero_le _⟩ dX7_press_14) (fun H locs hW => ?_)
    refine z_if_ne (tgt := 23) hx hb dX7_press_17 (by decide) (fun b17 => ?_) (fun b17 => ?_)
    · have h := it_t b17 h
      refine lv_aload_n hx hb dX7_press_23 rfl (lv_at hl 0 rfl) ?_
      refine lv_iload_n hx hb dX7_press_24 rfl (lv_at hl 1 rfl) ?_
      refine lv_iload_n hx hb dX7_press_25 rfl (lv_at hl 2 rfl) ?_
      obtain ⟨r26, r26h, h⟩ := bd_some h
      refine x_backV hW (x_runV (As := [.int a0, .int a1]) (rest := []) C hW (c_X7_turnsAll l G r26h H.size) cv_RX7_139 rv_X7 hl.1 rfl rfl ⟨by decide, by decide⟩ (Nat.le_of_ble_eq_true rfl) ⟨Nat.zero_le _, Nat.zero_le _⟩ dX7_press_26) (fun H locs hW => ?_)
      refine lv_aload_n hx hb dX7_press_29 rfl (lv_at hl 0 rfl) ?_
      refine gf_RX7_34 C hW dX7_press_30 ?_
      refine lv_iload_n hx hb dX7_press_33 rfl (lv_at hl 1 rfl) ?_
      refine lv_dup2_11 hx hb dX7_press_34 rfl rfl ?_
      obtain ⟨g35, h⟩ := ck_some h
      refine x_iald C hW (k := 9) (n := 5) (by decide) (fun _ => rfl) g35 dX7_press_35 ?_
      refine lv_iload_n hx hb dX7_press_36 rfl (lv_at hl 2 rfl) ?_
      refine lv_iadd hx hb dX7_press_37 ?_
      obtain ⟨g38, h⟩ := ck_some h
      refine x_iast C hW (k := 9) (n := 5) (by decide) (fun _ => rfl) g38 dX7_press_38 (fun H locs hW => ?_)
      refine lv_aload_n hx hb dX7_press_39 rfl (lv_at hl 0 rfl) ?_
      refine lv_dup hx hb dX7_press_40 rfl ?_
      refine gf_RX7_107 C hW dX7_press_41 ?_
      refine lv_iload_n hx hb dX7_press_44 rfl (lv_at hl 2 rfl) ?_
      refine lv_iadd hx hb dX7_press_45 ?_
      refine pf_RX7_107 C hW dX7_press_46 (fun H locs hW => ?_)
      refine lv_aload_n hx hb dX7_press_49 rfl (lv_at hl 0 rfl) ?_
      obtain ⟨r50, r50h, h⟩ := bd_some h
      refine x_backI hW (x_runV (As := []) (rest := []) C hW (c_X7_darkNow l G r50h H.size) cv_RX7_143 rv_X7 hl.1 rfl rfl ⟨by decide, by decide⟩ (Nat.le_of_ble_eq_true rfl) ⟨Nat.zero_le _, Nat.zero_le _⟩ dX7_press_50) (fun H locs hW => ?_)
      obtain rfl := Option.some.inj h
      exact K _ _ _ _ dX7_press_53 hW
    · have h := it_f b17 h
      refine lv_bipush (v := (-2)) hx hb dX7_press_20 (by decide) ?_
      obtain rfl := Option.some.inj h
      exact K _ _ _ _ dX7_press_22 hW
  · have h := it_f b5 h
    refine lv_iconst (v := (-1)) hx hb dX7_press_8 (by decide) ?_
    obtain rfl := Option.some.inj h
    exact K _ _ _ _ dX7_press_9 hW
set_option maxRecDepth 100000 in
theorem c_X7_press (l : Launch) (G : Geo) {S : St} {a0 : Int32} {a1 : Int32} {o : Int32 × St} (h : f_X7_press S a0 a1 = some o) : MI 18 eM G l yX7_press cX7_press 3 (some .int) 2 [.ref (adr G 0), .int a0, .int a1] S o.1 o.2 :=
  mI_of (by decide +kernel) (Nat.le_of_ble_eq_true rfl) (fun p e s m below meth c A H0 Q C K => w_f_X7_press C h K)
def f_X7_put (S : St) (a0 : Int32) (a1 : Int32) (a2 : Int32) : Option (Int32 × St) :=
  bd (f_X7_isSheet a0) fun r6 => if r6 = true then (ck (okx a0 4) <| if ((up S 0 0 ((0 : Int32))) 1 (ix a0)) = ((-9 : Int32)) then (bd (f_X7_fails (up S 0 0 ((0 : Int32))) ((1 : Int32))) fun r27 => some (r27.1, r27.2)) else (ck (okx a0 4) <| bd (f_X7_within a1 ((0 : Int32)) (((up S 0 0 ((0 : Int32))) 2 (ix a0)) - ((1 : Int32)))) fun r41 => if r41 = true then (ck (okx a0 4) <| if ((up S 0 0 ((0 : Int32))) 1 (ix a0)) = 0 then (ck (okx ((((60 : Int32)) * a0) + a1) 240) <| some ((1 : Int32), up (up S 0 0 ((0 : Int32))) 3 (ix ((((60 : Int32)) * a0) + a1)) a2.toInt8.toInt32)) else (ck (okx a0 4) <| if ((up S 0 0 ((0 : Int32))) 1 (ix a0)) = ((1 : Int32)) then (ck (okx ((((60 : Int32)) * a0) + a1) 240) <| some ((1 : Int32), up (up S 0 0 ((0 : Int32))) 3 (ix ((((60 : Int32)) * a0) + a1)) a2.toInt16.toInt32)) else (ck (okx ((((60 : Int32)) * a0) + a1) 240) <| some ((1 : Int32), up (up S 0 0 ((0 : Int32))) 3 (ix ((((60 : Int32)) * a0) + a1)) a2)))) else (bd (f_X7_fails (up S 0 0 ((0 : Int32))) ((3 : Int32))) fun r49 => some (r49.1, r49.2)))) else (some ((-1 : Int32), up S 0 0 ((0 : Int32))))
set_option maxHeartbeats 4000000 in
set_option maxRecDepth 100000 in
theorem w_f_X7_put {G : Geo} {p : Program} {l : Launch} {e : Env} {s : State} {m : MethodId} {args : Array Value} {below : List Frame} {meth : Method} {c : Code} {A : Nat → Prop} {H0 : Heap} {Q : State → Prop} (C : Cx G RX7 cX7_put 4 p s m args c) {S : St} {a0 : Int32} {a1 : Int32} {a2 : Int32} {o : Int32 × St} (h : f_X7_put S a0 a1 a2 = some o) (K : KI 18 eM G A H0 cX7_put p l e 2 s m args below meth c Q ((o).1) ((o).2)) : ∀ (H : Heap) (locs : List Loc) (ls : Array Slot), HM G A H0 S H locs → lv_has ls 4 [(0, .ref (adr G 0)), (1, .int a0), (2, .int a1), (3, .int a2)] → W p l e (rmK 2) s m args below meth c H locs 0 0 Q (F0 m 0 ls []) := by
  obtain ⟨hx, hb, -⟩ := id C
  intro H locs ls hW hl
  unfold f_X7_put at h
  refine lv_aload_n hx hb dX7_put_0 rfl (lv_at hl 0 rfl) ?_
  refine lv_iconst (v := 0) hx hb dX7_put_1 (by decide) ?_
  refine pf_RX7_61 C hW dX7_put_2 (fun H locs hW => ?_)
  refine lv_iload_n hx hb dX7_put_5 rfl (lv_at hl 1 rfl) ?_
  obtain ⟨r6, r6h, h⟩ := bd_some h
  refine x_backI hW (x_runS (As := [.int a0]) (rest := []) C hW (c_X7_isSheet l G (S := up S 0 0 ((0 : Int32))) r6h H.size) cs_RX7_80 hl.1 rfl rfl ⟨by decide, by decide⟩ (Nat.le_of_ble_eq_true rfl) ⟨Nat.zero_le _, Nat.zero_le _⟩ dX7_put_6) (fun H locs hW => ?_)
  refine z_if_ne (tgt := 14) hx hb dX7_put_9 (by decide) (fun b9 => ?_) (fun b9 => ?_)
  · have h := it_t b9 h
    refine lv_aload_n hx hb dX7_put_14 rfl (lv_at hl 0 rfl) ?_
    refine gf_RX7_9 C hW dX7_put_15 ?_
    refine lv_iload_n hx hb dX7_put_18 rfl (lv_at hl 1 rfl) ?_
    obtain ⟨g19, h⟩ := ck_some h
    refine x_iald C hW (k := 1) (n := 4) (by decide) (fun _ => rfl) g19 dX7_put_19 ?_
    refine lv_bipush (v := (-9)) hx hb dX7_put_20 (by decide) ?_
    refine lv_icmp_ne (tgt := 31) hx hb dX7_put_22 (by decide) (fun b22 => ?_) (fun b22 => ?_)
    · have h := it_f b22 h
      refine lv_iload_n hx hb dX7_put_31 rfl (lv_at hl 2 rfl) ?_
      refine lv_iconst (v := 0) hx hb dX7_put_32 (by decide) ?_
      refine lv_aload_n hx hb dX7_put_33 rfl (lv_at hl 0 rfl) ?_
      refine gf_RX7_13 C hW dX7_put_34 ?_
      refine lv_iload_n hx hb dX7_put_37 rfl (lv_at hl 1 rfl) ?_
      obtain ⟨g38, h⟩ := ck_some h
      refine x_iald C hW (k := 2) (n := 4) (by decide) (fun _ => rfl) g38 dX7_put_38 ?_
      refine lv_iconst (v := 1) hx hb dX7_put_39 (by decide) ?_
      refine lv_isub hx hb dX7_put_40 ?_
      obtain ⟨r41, r41h, h⟩ := bd_some h
      refine x_backI hW (x_runS (As := [.int a1, .int ((0 : Int32)), .int (((up S 0 0 ((0 : Int32))) 2 (ix a0)) - ((1 : Int32)))]) (rest := []) C hW (c_X7_within l G (S := up S 0 0 ((0 : Int32))) r41h H.size) cs_RX7_67 hl.1 rfl rfl ⟨by decide, by decide⟩ (Nat.le_of_ble_eq_true rfl) ⟨Nat.zero_le _, Nat.zero_le _⟩ dX7_put_41) (fun H locs hW => ?_)
      refine z_if_ne (tgt := 53) hx hb dX7_put_44 (by decide) (fun b44 => ?_) (fun b44 => ?_)
      · have h := it_t b44 h
        refine lv_aload_n hx hb dX7_put_53 rfl (lv_at hl 0 rfl) ?_
        refine gf_RX7_16 C hW dX7_put_54 ?_
        refine lv_bipush (v := 60) hx hb dX7_put_57 (by decide) ?_
        refine lv_iload_n hx hb dX7_put_59 rfl (lv_at hl 1 rfl) ?_
        refine lv_imul hx hb dX7_put_60 ?_
        refine lv_iload_n hx hb dX7_put_61 rfl (lv_at hl 2 rfl) ?_
        refine lv_iadd hx hb dX7_put_62 ?_
        refine lv_aload_n hx hb dX7_put_63 rfl (lv_at hl 0 rfl) ?_
        refine gf_RX7_9 C hW dX7_put_64 ?_
        refine lv_iload_n hx hb dX7_put_67 rfl (lv_at hl 1 rfl) ?_
        obtain ⟨g68, h⟩ := ck_some h
        refine x_iald C hW (k := 1) (n := 4) (by decide) (fun _ => rfl) g68 dX7_put_68 ?_
        refine lv_if_ne (tgt := 77) hx hb dX7_put_69 (by decide) (fun b69 => ?_) (fun b69 => ?_)
        · have h := it_f b69 h
          refine lv_aload_n hx hb dX7_put_77 rfl (lv_at hl 0 rfl) ?_
          refine gf_RX7_9 C hW dX7_put_78 ?_
          refine lv_iload_n hx hb dX7_put_81 rfl (lv_at hl 1 rfl) ?_
          obtain ⟨g82, h⟩ := ck_some h
          refine x_iald C hW (k := 1) (n := 4) (by decide) (fun _ => rfl) g82 dX7_put_82 ?_
          refine lv_iconst (v := 1) hx hb dX7_put_83 (by decide) ?_
          refine lv_icmp_ne (tgt := 92) hx hb dX7_put_84 (by decide) (fun b84 => ?_) (fun b84 => ?_)
          · have h := it_f b84 h
            refine lv_iload_n hx hb dX7_put_92 rfl (lv_at hl 3 rfl) ?_
            obtain ⟨g93, h⟩ := ck_some h
            refine x_iast C hW (k := 3) (n := 240) (by decide) (fun _ => rfl) g93 dX7_put_93 (fun H locs hW => ?_)
            refine lv_iconst (v := 1) hx hb dX7_put_94 (by decide) ?_
            obtain rfl := Option.some.inj h
            exact K _ _ _ _ dX7_put_95 hW
          · have h := it_t b84 h
            refine lv_iload_n hx hb dX7_put_87 rfl (lv_at hl 3 rfl) ?_
            refine lv_i2s hx hb dX7_put_88 rfl ?_
            refine lv_goto (tgt := 93) hx hb dX7_put_89 (by decide) ?_
            obtain ⟨g93, h⟩ := ck_some h
            refine x_iast C hW (k := 3) (n := 240) (by decide) (fun _ => rfl) g93 dX7_put_93 (fun H locs hW => ?_)
            refine lv_iconst (v := 1) hx hb dX7_put_94 (by decide) ?_
            obtain rfl := Option.some.inj h
            exact K _ _ _ _ dX7_put_95 hW
        · have h := it_t b69 h
          refine lv_iload_n hx hb dX7_put_72 rfl (lv_at hl 3 rfl) ?_
          refine lv_i2b hx hb dX7_put_73 rfl ?_
          refine lv_goto (tgt := 93) hx hb dX7_put_74 (by decide) ?_
          obtain ⟨g93, h⟩ := ck_some h
          refine x_iast C hW (k := 3) (n := 240) (by decide) (fun _ => rfl) g93 dX7_put_93 (fun H locs hW => ?_)
          refine lv_iconst (v := 1) hx hb dX7_put_94 (by decide) ?_
          obtain rfl := Option.some.inj h
          exact K _ _ _ _ dX7_put_95 hW
      · have h := it_f b44 h
        refine lv_aload_n hx hb dX7_put_47 rfl (lv_at hl 0 rfl) ?_
        refine lv_iconst (v := 3) hx hb dX7_put_48 (by decide) ?_
        obtain ⟨r49, r49h, h⟩ := bd_some h
        refine x_backI hW (x_runV (As := [.int ((3 : Int32))]) (rest := []) C hW (c_X7_fails l G r49h H.size) cv_RX7_91 rv_X7 hl.1 rfl rfl ⟨by decide, by decide⟩ (Nat.le_of_ble_eq_true rfl) ⟨Nat.zero_le _, Nat.zero_le _⟩ dX7_put_49) (fun H locs hW => ?_)
        obtain rfl := Option.some.inj h
        exact K _ _ _ _ dX7_put_52 hW
    · have h := it_t b22 h
      refine lv_aload_n hx hb dX7_put_25 rfl (lv_at hl 0 rfl) ?_
      refine lv_iconst (v := 1) hx hb dX7_put_26 (by decide) ?_
      obtain ⟨r27, r27h, h⟩ := bd_some h
      refine x_backI hW (x_runV (As := [.int ((1 : Int32))]) (rest := []) C hW (c_X7_fails l G r27h H.size) cv_RX7_91 rv_X7 hl.1 rfl rfl ⟨by decide, by decide⟩ (Nat.le_of_ble_eq_true rfl) ⟨Nat.zero_le _, Nat.zero_le _⟩ dX7_put_27) (fun H locs hW => ?_)
      obtain rfl := Option.some.inj h
      exact K _ _ _ _ dX7_put_30 hW
  · have h := it_f b9 h
    refine lv_iconst (v := (-1)) hx hb dX7_put_12 (by decide) ?_
    obtain rfl := Option.some.inj h
    exact K _ _ _ _ dX7_put_13 hW
set_option maxRecDepth 100000 in
theorem c_X7_put (l : Launch) (G : Geo) {S : St} {a0 : Int32} {a1 : Int32} {a2 : Int32} {o : Int32 × St} (h : f_X7_put S a0 a1 a2 = some o) : MI 18 eM G l yX7_put cX7_put 4 (some .int) 2 [.ref (adr G 0), .int a0, .int a1, .int a2] S o.1 o.2 :=
  mI_of (by decide +kernel) (Nat.le_of_ble_eq_true rfl) (fun p e s m below meth c A H0 Q C K => w_f_X7_put C h K)
def f_X7_reading (S : St) (a0 : Int32) (a1 : Int32) (a2 : Int32) : Option (Int32 × St) :=
  bd (f_X7_isSwitch S a0) fun r2 => if r2 = false then (some ((-1 : Int32), S)) else (bd (f_X7_isLamp S a1) fun r10 => if r10 = true then (bd (f_X7_within a2 ((0 : Int32)) ((4 : Int32))) fun r21 => if r21 = true then (if (S 0 24) = ((8 : Int32)) then (some ((-4 : Int32), S)) else (ck (okx (S 0 24) 8) <| ck (okx ((up S 15 (ix (S 0 24)) a0) 0 24) 8) <| ck (okx ((up (up S 15 (ix (S 0 24)) a0) 16 (ix ((up S 15 (ix (S 0 24)) a0) 0 24)) a1) 0 24) 8) <| some (((up (up (up (up S 15 (ix (S 0 24)) a0) 16 (ix ((up S 15 (ix (S 0 24)) a0) 0 24)) a1) 17 (ix ((up (up S 15 (ix (S 0 24)) a0) 16 (ix ((up S 15 (ix (S 0 24)) a0) 0 24)) a1) 0 24)) a2) 0 24 (((up (up (up S 15 (ix (S 0 24)) a0) 16 (ix ((up S 15 (ix (S 0 24)) a0) 0 24)) a1) 17 (ix ((up (up S 15 (ix (S 0 24)) a0) 16 (ix ((up S 15 (ix (S 0 24)) a0) 0 24)) a1) 0 24)) a2) 0 24) + ((1 : Int32)))) 0 24) - ((1 : Int32)), up (up (up (up S 15 (ix (S 0 24)) a0) 16 (ix ((up S 15 (ix (S 0 24)) a0) 0 24)) a1) 17 (ix ((up (up S 15 (ix (S 0 24)) a0) 16 (ix ((up S 15 (ix (S 0 24)) a0) 0 24)) a1) 0 24)) a2) 0 24 (((up (up (up S 15 (ix (S 0 24)) a0) 16 (ix ((up S 15 (ix (S 0 24)) a0) 0 24)) a1) 17 (ix ((up (up S 15 (ix (S 0 24)) a0) 16 (ix ((up S 15 (ix (S 0 24)) a0) 0 24)) a1) 0 24)) a2) 0 24) + ((1 : Int32)))))) else (some ((-2 : Int32), S))) else (some ((-1 : Int32), S)))
set_option maxHeartbeats 4000000 in
set_option maxRecDepth 100000 in
theorem w_f_X7_reading {G : Geo} {p : Program} {l : Launch} {e : Env} {s : State} {m : MethodId} {args : Array Value} {below : List Frame} {meth : Method} {c : Code} {A : Nat → Prop} {H0 : Heap} {Q : State → Prop} (C : Cx G RX7 cX7_reading 4 p s m args c) {S : St} {a0 : Int32} {a1 : Int32} {a2 : Int32} {o : Int32 × St} (h : f_X7_reading S a0 a1 a2 = some o) (K : KI 18 eM G A H0 cX7_reading p l e 1 s m args below meth c Q ((o).1) ((o).2)) : ∀ (H : Heap) (locs : List Loc) (ls : Array Slot), HM G A H0 S H locs → lv_has ls 4 [(0, .ref (adr G 0)), (1, .int a0), (2, .int a1), (3, .int a2)] → W p l e (rmK 1) s m args below meth c H locs 0 0 Q (F0 m 0 ls []) := by
  obtain ⟨hx, hb, -⟩ := id C
  intro H locs ls hW hl
  unfold f_X7_reading at h
  refine lv_aload_n hx hb dX7_reading_0 rfl (lv_at hl 0 rfl) ?_
  refine lv_iload_n hx hb dX7_reading_1 rfl (lv_at hl 1 rfl) ?_
  obtain ⟨r2, r2h, h⟩ := bd_some h
  refine x_backI hW (x_runV (As := [.int a0]) (rest := []) C hW (c_X7_isSwitch l G r2h H.size) cv_RX7_133 rv_X7 hl.1 rfl rfl ⟨by decide, by decide⟩ (Nat.le_of_ble_eq_true rfl) ⟨Nat.zero_le _, Nat.zero_le _⟩ dX7_reading_2) (fun H locs hW => ?_)
  refine z_if_eq (tgt := 16) hx hb dX7_reading_5 (by decide) (fun b5 => ?_) (fun b5 => ?_)
  · have h := it_t b5 h
    refine lv_iconst (v := (-1)) hx hb dX7_reading_16 (by decide) ?_
    obtain rfl := Option.some.inj h
    exact K _ _ _ _ dX7_reading_17 hW
  · have h := it_f b5 h
    refine lv_aload_n hx hb dX7_reading_8 rfl (lv_at hl 0 rfl) ?_
    refine lv_iload_n hx hb dX7_reading_9 rfl (lv_at hl 2 rfl) ?_
    obtain ⟨r10, r10h, h⟩ := bd_some h
    refine x_backI hW (x_runV (As := [.int a1]) (rest := []) C hW (c_X7_isLamp l G r10h H.size) cv_RX7_127 rv_X7 hl.1 rfl rfl ⟨by decide, by decide⟩ (Nat.le_of_ble_eq_true rfl) ⟨Nat.zero_le _, Nat.zero_le _⟩ dX7_reading_10) (fun H locs hW => ?_)
    refine z_if_ne (tgt := 18) hx hb dX7_reading_13 (by decide) (fun b13 => ?_) (fun b13 => ?_)
    · have h := it_t b13 h
      refine lv_iload_n hx hb dX7_reading_18 rfl (lv_at hl 3 rfl) ?_
      refine lv_iconst (v := 0) hx hb dX7_reading_19 (by decide) ?_
      refine lv_iconst (v := 4) hx hb dX7_reading_20 (by decide) ?_
      obtain ⟨r21, r21h, h⟩ := bd_some h
      refine x_backI hW (x_runS (As := [.int a2, .int ((0 : Int32)), .int ((4 : Int32))]) (rest := []) C hW (c_X7_within l G (S := S) r21h H.size) cs_RX7_67 hl.1 rfl rfl ⟨by decide, by decide⟩ (Nat.le_of_ble_eq_true rfl) ⟨Nat.zero_le _, Nat.zero_le _⟩ dX7_reading_21) (fun H locs hW => ?_)
      refine z_if_ne (tgt := 30) hx hb dX7_reading_24 (by decide) (fun b24 => ?_) (fun b24 => ?_)
      · have h := it_t b24 h
        refine lv_aload_n hx hb dX7_reading_30 rfl (lv_at hl 0 rfl) ?_
        refine gf_RX7_110 C hW dX7_reading_31 ?_
        refine lv_bipush (v := 8) hx hb dX7_reading_34 (by decide) ?_
        refine lv_icmp_ne (tgt := 42) hx hb dX7_reading_36 (by decide) (fun b36 => ?_) (fun b36 => ?_)
        · have h := it_f b36 h
          refine lv_aload_n hx hb dX7_reading_42 rfl (lv_at hl 0 rfl) ?_
          refine gf_RX7_52 C hW dX7_reading_43 ?_
          refine lv_aload_n hx hb dX7_reading_46 rfl (lv_at hl 0 rfl) ?_
          refine gf_RX7_110 C hW dX7_reading_47 ?_
          refine lv_iload_n hx hb dX7_reading_50 rfl (lv_at hl 1 rfl) ?_
          obtain ⟨g51, h⟩ := ck_some h
          refine x_iast C hW (k := 15) (n := 8) (by decide) (fun _ => rfl) g51 dX7_reading_51 (fun H locs hW => ?_)
          refine lv_aload_n hx hb dX7_reading_52 rfl (lv_at hl 0 rfl) ?_
          refine gf_RX7_55 C hW dX7_reading_53 ?_
          refine lv_aload_n hx hb dX7_reading_56 rfl (lv_at hl 0 rfl) ?_
          refine gf_RX7_110 C hW dX7_reading_57 ?_
          refine lv_iload_n hx hb dX7_reading_60 rfl (lv_at hl 2 rfl) ?_
          obtain ⟨g61, h⟩ := ck_some h
          refine x_iast C hW (k := 16) (n := 8) (by decide) (fun _ => rfl) g61 dX7_reading_61 (fun H locs hW => ?_)
          refine lv_aload_n hx hb dX7_reading_62 rfl (lv_at hl 0 rfl) ?_
          refine gf_RX7_58 C hW dX7_reading_63 ?_
          refine lv_aload_n hx hb dX7_reading_66 rfl (lv_at hl 0 rfl) ?_
          refine gf_RX7_110 C hW dX7_reading_67 ?_
          refine lv_iload_n hx hb dX7_reading_70 rfl (lv_at hl 3 rfl) ?_
          obtain ⟨g71, h⟩ := ck_some h
          refine x_iast C hW (k := 17) (n := 8) (by decide) (fun _ => rfl) g71 dX7_reading_71 (fun H locs hW => ?_)
          refine lv_aload_n hx hb dX7_reading_72 rfl (lv_at hl 0 rfl) ?_
          refine lv_dup hx hb dX7_reading_73 rfl ?_
          refine gf_RX7_110 C hW dX7_reading_74 ?_
          refine lv_iconst (v := 1) hx hb dX7_reading_77 (by decide) ?_
          refine lv_iadd hx hb dX7_reading_78 ?_
          refine pf_RX7_110 C hW dX7_reading_79 (fun H locs hW => ?_)
          refine lv_aload_n hx hb dX7_reading_82 rfl (lv_at hl 0 rfl) ?_
          refine gf_RX7_110 C hW dX7_reading_83 ?_
          refine lv_iconst (v := 1) hx hb dX7_reading_86 (by decide) ?_
          refine lv_isub hx hb dX7_reading_87 ?_
          obtain rfl := Option.some.inj h
          exact K _ _ _ _ dX7_reading_88 hW
        · have h := it_t b36 h
          refine lv_bipush (v := (-4)) hx hb dX7_reading_39 (by decide) ?_
          obtain rfl := Option.some.inj h
          exact K _ _ _ _ dX7_reading_41 hW
      · have h := it_f b24 h
        refine lv_bipush (v := (-2)) hx hb dX7_reading_27 (by decide) ?_
        obtain rfl := Option.some.inj h
        exact K _ _ _ _ dX7_reading_29 hW
    · have h := it_f b13 h
      refine lv_iconst (v := (-1)) hx hb dX7_reading_16 (by decide) ?_
      obtain rfl := Option.some.inj h
      exact K _ _ _ _ dX7_reading_17 hW
set_option maxRecDepth 100000 in
theorem c_X7_reading (l : Launch) (G : Geo) {S : St} {a0 : Int32} {a1 : Int32} {a2 : Int32} {o : Int32 × St} (h : f_X7_reading S a0 a1 a2 = some o) : MI 18 eM G l yX7_reading cX7_reading 4 (some .int) 1 [.ref (adr G 0), .int a0, .int a1, .int a2] S o.1 o.2 :=
  mI_of (by decide +kernel) (Nat.le_of_ble_eq_true rfl) (fun p e s m below meth c A H0 Q C K => w_f_X7_reading C h K)
def f_X7_shade (S : St) (a0 : Int32) (a1 : Int32) : Option (Int32 × St) :=
  bd (f_X7_isLamp S a0) fun r2 => if r2 = true then (ck (okx a0 5) <| bd (f_X7_within a1 ((0 : Int32)) ((S 4 (ix a0)) - ((1 : Int32)))) fun r20 => if r20 = true then (ck (okx a0 5) <| ck (okx a0 5) <| some (S 5 (ix a0), up S 5 (ix a0) a1)) else (some ((-2 : Int32), S))) else (some ((-1 : Int32), S))
set_option maxHeartbeats 4000000 in
set_option maxRecDepth 100000 in
theorem w_f_X7_shade {G : Geo} {p : Program} {l : Launch} {e : Env} {s : State} {m : MethodId} {args : Array Value} {below : List Frame} {meth : Method} {c : Code} {A : Nat → Prop} {H0 : Heap} {Q : State → Prop} (C : Cx G RX7 cX7_shade 4 p s m args c) {S : St} {a0 : Int32} {a1 : Int32} {o : Int32 × St} (h : f_X7_shade S a0 a1 = some o) (K : KI 18 eM G A H0 cX7_shade p l e 1 s m args below meth c Q ((o).1) ((o).2)) : ∀ (H : Heap) (locs : List Loc) (ls : Array Slot), HM G A H0 S H locs → lv_has ls 4 [(0, .ref (adr G 0)), (1, .int a0), (2, .int a1)] → W p l e (rmK 1) s m args below meth c H locs 0 0 Q (F0 m 0 ls []) := by
  obtain ⟨hx, hb, -⟩ := id C
  intro H locs ls hW hl
  unfold f_X7_shade at h
  refine lv_aload_n hx hb dX7_shade_0 rfl (lv_at hl 0 rfl) ?_
  refine lv_iload_n hx hb dX7_shade_1 rfl (lv_at hl 1 rfl) ?_
  obtain ⟨r2, r2h, h⟩ := bd_some h
  refine x_backI hW (x_runV (As := [.int a0]) (rest := []) C hW (c_X7_isLamp l G r2h H.size) cv_RX7_127 rv_X7 hl.1 rfl rfl ⟨by decide, by decide⟩ (Nat.le_of_ble_eq_true rfl) ⟨Nat.zero_le _, Nat.zero_le _⟩ dX7_shade_2) (fun H locs hW => ?_)
  refine z_if_ne (tgt := 10) hx hb dX7_shade_5 (by decide) (fun b5 => ?_) (fun b5 => ?_)
  · have h := it_t b5 h
    refine lv_iload_n hx hb dX7_shade_10 rfl (lv_at hl 2 rfl) ?_
    refine lv_iconst (v := 0) hx hb dX7_shade_11 (by decide) ?_
    refine lv_aload_n hx hb dX7_shade_12 rfl (lv_at hl 0 rfl) ?_
    refine gf_RX7_19 C hW dX7_shade_13 ?_
    refine lv_iload_n hx hb dX7_shade_16 rfl (lv_at hl 1 rfl) ?_
    obtain ⟨g17, h⟩ := ck_some h
    refine x_iald C hW (k := 4) (n := 5) (by decide) (fun _ => rfl) g17 dX7_shade_17 ?_
    refine lv_iconst (v := 1) hx hb dX7_shade_18 (by decide) ?_
    refine lv_isub hx hb dX7_shade_19 ?_
    obtain ⟨r20, r20h, h⟩ := bd_some h
    refine x_backI hW (x_runS (As := [.int a1, .int ((0 : Int32)), .int ((S 4 (ix a0)) - ((1 : Int32)))]) (rest := []) C hW (c_X7_within l G (S := S) r20h H.size) cs_RX7_67 hl.1 rfl rfl ⟨by decide, by decide⟩ (Nat.le_of_ble_eq_true rfl) ⟨Nat.zero_le _, Nat.zero_le _⟩ dX7_shade_20) (fun H locs hW => ?_)
    refine z_if_ne (tgt := 29) hx hb dX7_shade_23 (by decide) (fun b23 => ?_) (fun b23 => ?_)
    · have h := it_t b23 h
      refine lv_aload_n hx hb dX7_shade_29 rfl (lv_at hl 0 rfl) ?_
      refine gf_RX7_22 C hW dX7_shade_30 ?_
      refine lv_iload_n hx hb dX7_shade_33 rfl (lv_at hl 1 rfl) ?_
      obtain ⟨g34, h⟩ := ck_some h
      refine x_iald C hW (k := 5) (n := 5) (by decide) (fun _ => rfl) g34 dX7_shade_34 ?_
      refine lv_istore_n (lv' := [(3, .int (S 5 (ix a0))), (0, .ref (adr G 0)), (1, .int a0), (2, .int a1)]) hx hb dX7_shade_35 rfl hl (by decide) rfl (fun ls hl => ?_)
      refine lv_aload_n hx hb dX7_shade_36 rfl (lv_at hl 1 rfl) ?_
      refine gf_RX7_22 C hW dX7_shade_37 ?_
      refine lv_iload_n hx hb dX7_shade_40 rfl (lv_at hl 2 rfl) ?_
      refine lv_iload_n hx hb dX7_shade_41 rfl (lv_at hl 3 rfl) ?_
      obtain ⟨g42, h⟩ := ck_some h
      refine x_iast C hW (k := 5) (n := 5) (by decide) (fun _ => rfl) g42 dX7_shade_42 (fun H locs hW => ?_)
      refine lv_iload_n hx hb dX7_shade_43 rfl (lv_at hl 0 rfl) ?_
      obtain rfl := Option.some.inj h
      exact K _ _ _ _ dX7_shade_44 hW
    · have h := it_f b23 h
      refine lv_bipush (v := (-2)) hx hb dX7_shade_26 (by decide) ?_
      obtain rfl := Option.some.inj h
      exact K _ _ _ _ dX7_shade_28 hW
  · have h := it_f b5 h
    refine lv_iconst (v := (-1)) hx hb dX7_shade_8 (by decide) ?_
    obtain rfl := Option.some.inj h
    exact K _ _ _ _ dX7_shade_9 hW
set_option maxRecDepth 100000 in
theorem c_X7_shade (l : Launch) (G : Geo) {S : St} {a0 : Int32} {a1 : Int32} {o : Int32 × St} (h : f_X7_shade S a0 a1 = some o) : MI 18 eM G l yX7_shade cX7_shade 4 (some .int) 1 [.ref (adr G 0), .int a0, .int a1] S o.1 o.2 :=
  mI_of (by decide +kernel) (Nat.le_of_ble_eq_true rfl) (fun p e s m below meth c A H0 Q C K => w_f_X7_shade C h K)
def i_X7_shadings_22 (S : St) (x1 : Int32) (x2 : Int32) (x3 : Int32) (x4 : Int32) : Option ((St × Int32 × Int32) ⊕ (St × Int32 × Int32)) :=
  if ((5 : Int32)) < x4 then (some (.inr (S, x3, x4))) else (ck (okx x1 5) <| bd (f_X7_areSo (up S 4 (ix x1) x4)) fun r38 => if r38 = false then (some (.inl (up S 4 (ix x1) x4, x3 ||| ((0 : Int32)), x4 + (1 : Int32)))) else (some (.inl (up S 4 (ix x1) x4, x3 ||| (shl32 ((1 : Int32)) x4), x4 + (1 : Int32)))))
set_option maxHeartbeats 4000000 in
set_option maxRecDepth 100000 in
theorem w_i_X7_shadings_22 {G : Geo} {p : Program} {l : Launch} {e : Env} {s : State} {m : MethodId} {args : Array Value} {below : List Frame} {meth : Method} {c : Code} {A : Nat → Prop} {H0 : Heap} {Q : State → Prop} (C : Cx G RX7 cX7_shadings 5 p s m args c) {S : St} {x1 : Int32} {x2 : Int32} {x3 : Int32} {x4 : Int32} {o : (St × Int32 × Int32) ⊕ (St × Int32 × Int32)} (h : i_X7_shadings_22 S x1 x2 x3 x4 = some o) (Kn : ∀ q, o = .inl q → ∀ (H : Heap) (locs : List Loc) (ls : Array Slot), HM G A H0 q.1 H locs → lv_has ls 5 [(0, .ref (adr G 0)), (1, .int x1), (2, .int x2), (3, .int (q.2.1)), (4, .int (q.2.2))] → W p l e (rmK 2) s m args below meth c H locs 0 0 Q (F0 m 22 ls [])) (Kt : ∀ q, o = .inr q → ∀ (H : Heap) (locs : List Loc) (ls : Array Slot), HM G A H0 q.1 H locs → lv_has ls 5 [(0, .ref (adr G 0)), (1, .int x1), (2, .int x2), (3, .int (q.2.1))] → W p l e (rmK 2) s m args below meth c H locs 0 0 Q (F0 m 60 ls [])) : ∀ (H : Heap) (locs : List Loc) (ls : Array Slot), HM G A H0 S H locs → lv_has ls 5 [(0, .ref (adr G 0)), (1, .int x1), (2, .int x2), (3, .int x3), (4, .int x4)] → W p l e (rmK 2) s m args below meth c H locs 0 0 Q (F0 m 22 ls []) := by
  obtain ⟨hx, hb, -⟩ := id C
  intro H locs ls hW hl
  unfold i_X7_shadings_22 at h
  refine lv_iload hx hb dX7_shadings_22 (lv_at hl 4 rfl) ?_
  refine lv_iconst (v := 5) hx hb dX7_shadings_24 (by decide) ?_
  refine lv_icmp_gt (tgt := 60) hx hb dX7_shadings_25 (by decide) (fun b25 => ?_) (fun b25 => ?_)
  · have h := it_t b25 h
    obtain rfl := Option.some.inj h
    exact Kt _ rfl _ _ _ hW (lv_sub hl [0, 1, 2, 3] rfl)
  · have h := it_f b25 h
    refine lv_aload_n hx hb dX7_shadings_28 rfl (lv_at hl 0 rfl) ?_
    refine gf_RX7_19 C hW dX7_shadings_29 ?_
    refine lv_iload_n hx hb dX7_shadings_32 rfl (lv_at hl 1 rfl) ?_
    refine lv_iload hx hb dX7_shadings_33 (lv_at hl 4 rfl) ?_
    obtain ⟨g35, h⟩ := ck_some h
    refine x_iast C hW (k := 4) (n := 5) (by decide) (fun _ => rfl) g35 dX7_shadings_35 (fun H locs hW => ?_)
    refine lv_iload_n hx hb dX7_shadings_36 rfl (lv_at hl 3 rfl) ?_
    refine lv_aload_n hx hb dX7_shadings_37 rfl (lv_at hl 0 rfl) ?_
    obtain ⟨r38, r38h, h⟩ := bd_some h
    refine x_backI hW (x_runV (As := []) (rest := [.int x3]) C hW (c_X7_areSo l G r38h H.size) cv_RX7_194 rv_X7 hl.1 rfl rfl ⟨by decide, by decide⟩ (Nat.le_of_ble_eq_true rfl) ⟨Nat.zero_le _, Nat.zero_le _⟩ dX7_shadings_38) (fun H locs hW => ?_)
    refine z_if_eq (tgt := 51) hx hb dX7_shadings_41 (by decide) (fun b41 => ?_) (fun b41 => ?_)
    · have h := it_t b41 h
      refine lv_iconst (v := 0) hx hb dX7_shadings_51 (by decide) ?_
      refine lv_ior hx hb dX7_shadings_52 ?_
      refine lv_istore_n (lv' := [(3, .int (x3 ||| ((0 : Int32)))), (0, .ref (adr G 0)), (1, .int x1), (2, .int x2), (4, .int x4)]) hx hb dX7_shadings_53 rfl hl (by decide) rfl (fun ls hl => ?_)
      refine lv_iinc (v := (x4 + (1 : Int32))) (lv' := [(4, .int (x4 + (1 : Int32))), (3, .int (x3 ||| ((0 : Int32)))), (0, .ref (adr G 0)), (1, .int x1), (2, .int x2)]) hx hb dX7_shadings_54 hl (k := 4) rfl rfl (by decide) rfl (fun ls hl => ?_)
      refine lv_goto (tgt := 22) hx hb dX7_shadings_57 (by decide) ?_
      obtain rfl := Option.some.inj h
      exact Kn _ rfl _ _ _ hW (lv_sub hl [2, 3, 4, 1, 0] rfl)
    · have h := it_f b41 h
      refine lv_iconst (v := 1) hx hb dX7_shadings_44 (by decide) ?_
      refine lv_iload hx hb dX7_shadings_45 (lv_at hl 4 rfl) ?_
      refine lv_ishl hx hb dX7_shadings_47 ?_
      refine lv_goto (tgt := 52) hx hb dX7_shadings_48 (by decide) ?_
      refine lv_ior hx hb dX7_shadings_52 ?_
      refine lv_istore_n (lv' := [(3, .int (x3 ||| (shl32 ((1 : Int32)) x4))), (0, .ref (adr G 0)), (1, .int x1), (2, .int x2), (4, .int x4)]) hx hb dX7_shadings_53 rfl hl (by decide) rfl (fun ls hl => ?_)
      refine lv_iinc (v := (x4 + (1 : Int32))) (lv' := [(4, .int (x4 + (1 : Int32))), (3, .int (x3 ||| (shl32 ((1 : Int32)) x4))), (0, .ref (adr G 0)), (1, .int x1), (2, .int x2)]) hx hb dX7_shadings_54 hl (k := 4) rfl rfl (by decide) rfl (fun ls hl => ?_)
      refine lv_goto (tgt := 22) hx hb dX7_shadings_57 (by decide) ?_
      obtain rfl := Option.some.inj h
      exact Kn _ rfl _ _ _ hW (lv_sub hl [2, 3, 4, 1, 0] rfl)
set_option maxHeartbeats 4000000 in
set_option maxRecDepth 100000 in
theorem l_i_X7_shadings_22 {G : Geo} {p : Program} {l : Launch} {e : Env} {s : State} {m : MethodId} {args : Array Value} {below : List Frame} {meth : Method} {c : Code} {A : Nat → Prop} {H0 : Heap} {Q : State → Prop} (C : Cx G RX7 cX7_shadings 5 p s m args c) {x1 : Int32} {x2 : Int32} {n : Nat} {q0 : St × Int32 × Int32} {u : St × Int32 × Int32} (hq : iter (fun q : St × Int32 × Int32 => i_X7_shadings_22 q.1 x1 x2 q.2.1 q.2.2) n q0 = some u) (Kt : (fun q : St × Int32 × Int32 => ∀ (H : Heap) (locs : List Loc) (ls : Array Slot), HM G A H0 q.1 H locs → lv_has ls 5 [(0, .ref (adr G 0)), (1, .int x1), (2, .int x2), (3, .int (q.2.1))] → W p l e (rmK 2) s m args below meth c H locs 0 0 Q (F0 m 60 ls [])) u) : (fun q : St × Int32 × Int32 => ∀ (H : Heap) (locs : List Loc) (ls : Array Slot), HM G A H0 q.1 H locs → lv_has ls 5 [(0, .ref (adr G 0)), (1, .int x1), (2, .int x2), (3, .int (q.2.1)), (4, .int (q.2.2))] → W p l e (rmK 2) s m args below meth c H locs 0 0 Q (F0 m 22 ls [])) q0 :=
  iter_W (P := fun q : St × Int32 × Int32 => ∀ (H : Heap) (locs : List Loc) (ls : Array Slot), HM G A H0 q.1 H locs → lv_has ls 5 [(0, .ref (adr G 0)), (1, .int x1), (2, .int x2), (3, .int (q.2.1)), (4, .int (q.2.2))] → W p l e (rmK 2) s m args below meth c H locs 0 0 Q (F0 m 22 ls [])) (K := fun q : St × Int32 × Int32 => ∀ (H : Heap) (locs : List Loc) (ls : Array Slot), HM G A H0 q.1 H locs → lv_has ls 5 [(0, .ref (adr G 0)), (1, .int x1), (2, .int x2), (3, .int (q.2.1))] → W p l e (rmK 2) s m args below meth c H locs 0 0 Q (F0 m 60 ls [])) (fun q o hit Kn Kt => w_i_X7_shadings_22 C  hit Kn Kt) n q0 u hq Kt
def f_X7_shadings (S : St) (a0 : Int32) : Option (Int32 × St) :=
  bd (f_X7_isLamp S a0) fun r2 => if r2 = true then (ck (okx a0 5) <| bd (iter (fun q => i_X7_shadings_22 q.1 a0 (S 4 (ix a0)) q.2.1 q.2.2) BIG (S, (0 : Int32), (2 : Int32))) fun q22 => ck (okx a0 5) <| some (q22.2.1, up q22.1 4 (ix a0) (S 4 (ix a0)))) else (some ((-1 : Int32), S))
set_option maxHeartbeats 4000000 in
set_option maxRecDepth 100000 in
theorem w_f_X7_shadings {G : Geo} {p : Program} {l : Launch} {e : Env} {s : State} {m : MethodId} {args : Array Value} {below : List Frame} {meth : Method} {c : Code} {A : Nat → Prop} {H0 : Heap} {Q : State → Prop} (C : Cx G RX7 cX7_shadings 5 p s m args c) {S : St} {a0 : Int32} {o : Int32 × St} (h : f_X7_shadings S a0 = some o) (K : KI 18 eM G A H0 cX7_shadings p l e 2 s m args below meth c Q ((o).1) ((o).2)) : ∀ (H : Heap) (locs : List Loc) (ls : Array Slot), HM G A H0 S H locs → lv_has ls 5 [(0, .ref (adr G 0)), (1, .int a0)] → W p l e (rmK 2) s m args below meth c H locs 0 0 Q (F0 m 0 ls []) := by
  obtain ⟨hx, hb, -⟩ := id C
  intro H locs ls hW hl
  unfold f_X7_shadings at h
  refine lv_aload_n hx hb dX7_shadings_0 rfl (lv_at hl 0 rfl) ?_
  refine lv_iload_n hx hb dX7_shadings_1 rfl (lv_at hl 1 rfl) ?_
  obtain ⟨r2, r2h, h⟩ := bd_some h
  refine x_backI hW (x_runV (As := [.int a0]) (rest := []) C hW (c_X7_isLamp l G r2h H.size) cv_RX7_127 rv_X7 hl.1 rfl rfl ⟨by decide, by decide⟩ (Nat.le_of_ble_eq_true rfl) ⟨Nat.zero_le _, Nat.zero_le _⟩ dX7_shadings_2) (fun H locs hW => ?_)
  refine z_if_ne (tgt := 10) hx hb dX7_shadings_5 (by decide) (fun b5 => ?_) (fun b5 => ?_)
  · have h := it_t b5 h
    refine lv_aload_n hx hb dX7_shadings_10 rfl (lv_at hl 0 rfl) ?_
    refine gf_RX7_19 C hW dX7_shadings_11 ?_
    refine lv_iload_n hx hb dX7_shadings_14 rfl (lv_at hl 1 rfl) ?_
    obtain ⟨g15, h⟩ := ck_some h
    refine x_iald C hW (k := 4) (n := 5) (by decide) (fun _ => rfl) g15 dX7_shadings_15 ?_
    refine lv_istore_n (lv' := [(2, .int (S 4 (ix a0))), (0, .ref (adr G 0)), (1, .int a0)]) hx hb dX7_shadings_16 rfl hl (by decide) rfl (fun ls hl => ?_)
    refine lv_iconst (v := 0) hx hb dX7_shadings_17 (by decide) ?_
    refine lv_istore_n (lv' := [(3, .int ((0 : Int32))), (2, .int (S 4 (ix a0))), (0, .ref (adr G 0)), (1, .int a0)]) hx hb dX7_shadings_18 rfl hl (by decide) rfl (fun ls hl => ?_)
    refine lv_iconst (v := 2) hx hb dX7_shadings_19 (by decide) ?_
    refine lv_istore (lv' := [(4, .int ((2 : Int32))), (3, .int ((0 : Int32))), (2, .int (S 4 (ix a0))), (0, .ref (adr G 0)), (1, .int a0)]) hx hb dX7_shadings_20 hl (by decide) rfl (fun ls hl => ?_)
    obtain ⟨q22, q22h, h⟩ := bd_some h
    refine l_i_X7_shadings_22 C  q22h ?_ _ _ _ hW (lv_sub hl [3, 4, 2, 1, 0] rfl)
    intro H locs ls hW hl
    refine lv_aload_n hx hb dX7_shadings_60 rfl (lv_at hl 0 rfl) ?_
    refine gf_RX7_19 C hW dX7_shadings_61 ?_
    refine lv_iload_n hx hb dX7_shadings_64 rfl (lv_at hl 1 rfl) ?_
    refine lv_iload_n hx hb dX7_shadings_65 rfl (lv_at hl 2 rfl) ?_
    obtain ⟨g66, h⟩ := ck_some h
    refine x_iast C hW (k := 4) (n := 5) (by decide) (fun _ => rfl) g66 dX7_shadings_66 (fun H locs hW => ?_)
    refine lv_iload_n hx hb dX7_shadings_67 rfl (lv_at hl 3 rfl) ?_
    obtain rfl := Option.some.inj h
    exact K _ _ _ _ dX7_shadings_68 hW
  · have h := it_f b5 h
    refine lv_iconst (v := (-1)) hx hb dX7_shadings_8 (by decide) ?_
    obtain rfl := Option.some.inj h
    exact K _ _ _ _ dX7_shadings_9 hW
set_option maxRecDepth 100000 in
theorem c_X7_shadings (l : Launch) (G : Geo) {S : St} {a0 : Int32} {o : Int32 × St} (h : f_X7_shadings S a0 = some o) : MI 18 eM G l yX7_shadings cX7_shadings 5 (some .int) 2 [.ref (adr G 0), .int a0] S o.1 o.2 :=
  mI_of (by decide +kernel) (Nat.le_of_ble_eq_true rfl) (fun p e s m below meth c A H0 Q C K => w_f_X7_shadings C h K)
def i_X7_sheet_57 (S : St) (x1 : Int32) (x4 : Int32) : Option ((St × Int32) ⊕ (St × Int32)) :=
  if ((60 : Int32)) ≤ x4 then (some (.inr (S, x4))) else (ck (okx ((((60 : Int32)) * x1) + x4) 240) <| some (.inl (up S 3 (ix ((((60 : Int32)) * x1) + x4)) ((0 : Int32)), x4 + (1 : Int32))))
set_option maxHeartbeats 4000000 in
set_option maxRecDepth 100000 in
theorem w_i_X7_sheet_57 {G : Geo} {p : Program} {l : Launch} {e : Env} {s : State} {m : MethodId} {args : Array Value} {below : List Frame} {meth : Method} {c : Code} {A : Nat → Prop} {H0 : Heap} {Q : State → Prop} (C : Cx G RX7 cX7_sheet 5 p s m args c) {S : St} {x1 : Int32} {x4 : Int32} {o : (St × Int32) ⊕ (St × Int32)} (h : i_X7_sheet_57 S x1 x4 = some o) (Kn : ∀ q, o = .inl q → ∀ (H : Heap) (locs : List Loc) (ls : Array Slot), HM G A H0 q.1 H locs → lv_has ls 5 [(0, .ref (adr G 0)), (1, .int x1), (4, .int (q.2))] → W p l e (rmK 2) s m args below meth c H locs 0 0 Q (F0 m 57 ls [])) (Kt : ∀ q, o = .inr q → ∀ (H : Heap) (locs : List Loc) (ls : Array Slot), HM G A H0 q.1 H locs → lv_has ls 5 [] → W p l e (rmK 2) s m args below meth c H locs 0 0 Q (F0 m 83 ls [])) : ∀ (H : Heap) (locs : List Loc) (ls : Array Slot), HM G A H0 S H locs → lv_has ls 5 [(0, .ref (adr G 0)), (1, .int x1), (4, .int x4)] → W p l e (rmK 2) s m args below meth c H locs 0 0 Q (F0 m 57 ls []) := by
  obtain ⟨hx, hb, -⟩ := id C
  intro H locs ls hW hl
  unfold i_X7_sheet_57 at h
  refine lv_iload hx hb dX7_sheet_57 (lv_at hl 2 rfl) ?_
  refine lv_bipush (v := 60) hx hb dX7_sheet_59 (by decide) ?_
  refine lv_icmp_ge (tgt := 83) hx hb dX7_sheet_61 (by decide) (fun b61 => ?_) (fun b61 => ?_)
  · have h := it_t b61 h
    obtain rfl := Option.some.inj h
    exact Kt _ rfl _ _ _ hW (lv_sub hl [] rfl)
  · have h := it_f b61 h
    refine lv_aload_n hx hb dX7_sheet_64 rfl (lv_at hl 0 rfl) ?_
    refine gf_RX7_16 C hW dX7_sheet_65 ?_
    refine lv_bipush (v := 60) hx hb dX7_sheet_68 (by decide) ?_
    refine lv_iload_n hx hb dX7_sheet_70 rfl (lv_at hl 1 rfl) ?_
    refine lv_imul hx hb dX7_sheet_71 ?_
    refine lv_iload hx hb dX7_sheet_72 (lv_at hl 2 rfl) ?_
    refine lv_iadd hx hb dX7_sheet_74 ?_
    refine lv_iconst (v := 0) hx hb dX7_sheet_75 (by decide) ?_
    obtain ⟨g76, h⟩ := ck_some h
    refine x_iast C hW (k := 3) (n := 240) (by decide) (fun _ => rfl) g76 dX7_sheet_76 (fun H locs hW => ?_)
    refine lv_iinc (v := (x4 + (1 : Int32))) (lv' := [(4, .int (x4 + (1 : Int32))), (0, .ref (adr G 0)), (1, .int x1)]) hx hb dX7_sheet_77 hl (k := 2) rfl rfl (by decide) rfl (fun ls hl => ?_)
    refine lv_goto (tgt := 57) hx hb dX7_sheet_80 (by decide) ?_
    obtain rfl := Option.some.inj h
    exact Kn _ rfl _ _ _ hW (lv_sub hl [1, 2, 0] rfl)
set_option maxHeartbeats 4000000 in
set_option maxRecDepth 100000 in
theorem l_i_X7_sheet_57 {G : Geo} {p : Program} {l : Launch} {e : Env} {s : State} {m : MethodId} {args : Array Value} {below : List Frame} {meth : Method} {c : Code} {A : Nat → Prop} {H0 : Heap} {Q : State → Prop} (C : Cx G RX7 cX7_sheet 5 p s m args c) {x1 : Int32} {n : Nat} {q0 : St × Int32} {u : St × Int32} (hq : iter (fun q : St × Int32 => i_X7_sheet_57 q.1 x1 q.2) n q0 = some u) (Kt : (fun q : St × Int32 => ∀ (H : Heap) (locs : List Loc) (ls : Array Slot), HM G A H0 q.1 H locs → lv_has ls 5 [] → W p l e (rmK 2) s m args below meth c H locs 0 0 Q (F0 m 83 ls [])) u) : (fun q : St × Int32 => ∀ (H : Heap) (locs : List Loc) (ls : Array Slot), HM G A H0 q.1 H locs → lv_has ls 5 [(0, .ref (adr G 0)), (1, .int x1), (4, .int (q.2))] → W p l e (rmK 2) s m args below meth c H locs 0 0 Q (F0 m 57 ls [])) q0 :=
  iter_W (P := fun q : St × Int32 => ∀ (H : Heap) (locs : List Loc) (ls : Array Slot), HM G A H0 q.1 H locs → lv_has ls 5 [(0, .ref (adr G 0)), (1, .int x1), (4, .int (q.2))] → W p l e (rmK 2) s m args below meth c H locs 0 0 Q (F0 m 57 ls [])) (K := fun q : St × Int32 => ∀ (H : Heap) (locs : List Loc) (ls : Array Slot), HM G A H0 q.1 H locs → lv_has ls 5 [] → W p l e (rmK 2) s m args below meth c H locs 0 0 Q (F0 m 83 ls [])) (fun q o hit Kn Kt => w_i_X7_sheet_57 C  hit Kn Kt) n q0 u hq Kt
def f_X7_sheet (S : St) (a0 : Int32) (a1 : Int32) (a2 : Int32) : Option (Int32 × St) :=
  bd (f_X7_isSheet a0) fun r6 => if r6 = true then (bd (f_X7_isSort a1) fun r15 => if r15 = false then (some ((-2 : Int32), up S 0 0 ((0 : Int32)))) else (if a2 ≤ ((60 : Int32)) then (if 0 ≤ a2 then (ck (okx a0 4) <| ck (okx a0 4) <| bd (iter (fun q => i_X7_sheet_57 q.1 a0 q.2) BIG (up (up (up S 0 0 ((0 : Int32))) 1 (ix a0) a1) 2 (ix a0) a2, (0 : Int32))) fun q57 => some ((1 : Int32), q57.1)) else (bd (f_X7_fails (up S 0 0 ((0 : Int32))) ((4 : Int32))) fun r36 => some (r36.1, r36.2))) else (some ((-2 : Int32), up S 0 0 ((0 : Int32)))))) else (some ((-1 : Int32), up S 0 0 ((0 : Int32))))
set_option maxHeartbeats 4000000 in
set_option maxRecDepth 100000 in
theorem w_f_X7_sheet {G : Geo} {p : Program} {l : Launch} {e : Env} {s : State} {m : MethodId} {args : Array Value} {below : List Frame} {meth : Method} {c : Code} {A : Nat → Prop} {H0 : Heap} {Q : State → Prop} (C : Cx G RX7 cX7_sheet 5 p s m args c) {S : St} {a0 : Int32} {a1 : Int32} {a2 : Int32} {o : Int32 × St} (h : f_X7_sheet S a0 a1 a2 = some o) (K : KI 18 eM G A H0 cX7_sheet p l e 2 s m args below meth c Q ((o).1) ((o).2)) : ∀ (H : Heap) (locs : List Loc) (ls : Array Slot), HM G A H0 S H locs → lv_has ls 5 [(0, .ref (adr G 0)), (1, .int a0), (2, .int a1), (3, .int a2)] → W p l e (rmK 2) s m args below meth c H locs 0 0 Q (F0 m 0 ls []) := by
  obtain ⟨hx, hb, -⟩ := id C
  intro H locs ls hW hl
  unfold f_X7_sheet at h
  refine lv_aload_n hx hb dX7_sheet_0 rfl (lv_at hl 0 rfl) ?_
  refine lv_iconst (v := 0) hx hb dX7_sheet_1 (by decide) ?_
  refine pf_RX7_61 C hW dX7_sheet_2 (fun H locs hW => ?_)
  refine lv_iload_n hx hb dX7_sheet_5 rfl (lv_at hl 1 rfl) ?_
  obtain ⟨r6, r6h, h⟩ := bd_some h
  refine x_backI hW (x_runS (As := [.int a0]) (rest := []) C hW (c_X7_isSheet l G (S := up S 0 0 ((0 : Int32))) r6h H.size) cs_RX7_80 hl.1 rfl rfl ⟨by decide, by decide⟩ (Nat.le_of_ble_eq_true rfl) ⟨Nat.zero_le _, Nat.zero_le _⟩ dX7_sheet_6) (fun H locs hW => ?_)
  refine z_if_ne (tgt := 14) hx hb dX7_sheet_9 (by decide) (fun b9 => ?_) (fun b9 => ?_)
  · have h := it_t b9 h
    refine lv_iload_n hx hb dX7_sheet_14 rfl (lv_at hl 2 rfl) ?_
    obtain ⟨r15, r15h, h⟩ := bd_some h
    refine x_backI hW (x_runS (As := [.int a1]) (rest := []) C hW (c_X7_isSort l G (S := up S 0 0 ((0 : Int32))) r15h H.size) cs_RX7_84 hl.1 rfl rfl ⟨by decide, by decide⟩ (Nat.le_of_ble_eq_true rfl) ⟨Nat.zero_le _, Nat.zero_le _⟩ dX7_sheet_15) (fun H locs hW => ?_)
    refine z_if_eq (tgt := 27) hx hb dX7_sheet_18 (by decide) (fun b18 => ?_) (fun b18 => ?_)
    · have h := it_t b18 h
      refine lv_bipush (v := (-2)) hx hb dX7_sheet_27 (by decide) ?_
      obtain rfl := Option.some.inj h
      exact K _ _ _ _ dX7_sheet_29 hW
    · have h := it_f b18 h
      refine lv_iload_n hx hb dX7_sheet_21 rfl (lv_at hl 3 rfl) ?_
      refine lv_bipush (v := 60) hx hb dX7_sheet_22 (by decide) ?_
      refine lv_icmp_le (tgt := 30) hx hb dX7_sheet_24 (by decide) (fun b24 => ?_) (fun b24 => ?_)
      · have h := it_t b24 h
        refine lv_iload_n hx hb dX7_sheet_30 rfl (lv_at hl 3 rfl) ?_
        refine lv_if_ge (tgt := 40) hx hb dX7_sheet_31 (by decide) (fun b31 => ?_) (fun b31 => ?_)
        · have h := it_t b31 h
          refine lv_aload_n hx hb dX7_sheet_40 rfl (lv_at hl 0 rfl) ?_
          refine gf_RX7_9 C hW dX7_sheet_41 ?_
          refine lv_iload_n hx hb dX7_sheet_44 rfl (lv_at hl 1 rfl) ?_
          refine lv_iload_n hx hb dX7_sheet_45 rfl (lv_at hl 2 rfl) ?_
          obtain ⟨g46, h⟩ := ck_some h
          refine x_iast C hW (k := 1) (n := 4) (by decide) (fun _ => rfl) g46 dX7_sheet_46 (fun H locs hW => ?_)
          refine lv_aload_n hx hb dX7_sheet_47 rfl (lv_at hl 0 rfl) ?_
          refine gf_RX7_13 C hW dX7_sheet_48 ?_
          refine lv_iload_n hx hb dX7_sheet_51 rfl (lv_at hl 1 rfl) ?_
          refine lv_iload_n hx hb dX7_sheet_52 rfl (lv_at hl 3 rfl) ?_
          obtain ⟨g53, h⟩ := ck_some h
          refine x_iast C hW (k := 2) (n := 4) (by decide) (fun _ => rfl) g53 dX7_sheet_53 (fun H locs hW => ?_)
          refine lv_iconst (v := 0) hx hb dX7_sheet_54 (by decide) ?_
          refine lv_istore (lv' := [(4, .int ((0 : Int32))), (0, .ref (adr G 0)), (1, .int a0), (2, .int a1), (3, .int a2)]) hx hb dX7_sheet_55 hl (by decide) rfl (fun ls hl => ?_)
          obtain ⟨q57, q57h, h⟩ := bd_some h
          refine l_i_X7_sheet_57 C  q57h ?_ _ _ _ hW (lv_sub hl [1, 2, 0] rfl)
          intro H locs ls hW hl
          refine lv_iconst (v := 1) hx hb dX7_sheet_83 (by decide) ?_
          obtain rfl := Option.some.inj h
          exact K _ _ _ _ dX7_sheet_84 hW
        · have h := it_f b31 h
          refine lv_aload_n hx hb dX7_sheet_34 rfl (lv_at hl 0 rfl) ?_
          refine lv_iconst (v := 4) hx hb dX7_sheet_35 (by decide) ?_
          obtain ⟨r36, r36h, h⟩ := bd_some h
          refine x_backI hW (x_runV (As := [.int ((4 : Int32))]) (rest := []) C hW (c_X7_fails l G r36h H.size) cv_RX7_91 rv_X7 hl.1 rfl rfl ⟨by decide, by decide⟩ (Nat.le_of_ble_eq_true rfl) ⟨Nat.zero_le _, Nat.zero_le _⟩ dX7_sheet_36) (fun H locs hW => ?_)
          obtain rfl := Option.some.inj h
          exact K _ _ _ _ dX7_sheet_39 hW
      · have h := it_f b24 h
        refine lv_bipush (v := (-2)) hx hb dX7_sheet_27 (by decide) ?_
        obtain rfl := Option.some.inj h
        exact K _ _ _ _ dX7_sheet_29 hW
  · have h := it_f b9 h
    refine lv_iconst (v := (-1)) hx hb dX7_sheet_12 (by decide) ?_
    obtain rfl := Option.some.inj h
    exact K _ _ _ _ dX7_sheet_13 hW
set_option maxRecDepth 100000 in
theorem c_X7_sheet (l : Launch) (G : Geo) {S : St} {a0 : Int32} {a1 : Int32} {a2 : Int32} {o : Int32 × St} (h : f_X7_sheet S a0 a1 a2 = some o) : MI 18 eM G l yX7_sheet cX7_sheet 5 (some .int) 2 [.ref (adr G 0), .int a0, .int a1, .int a2] S o.1 o.2 :=
  mI_of (by decide +kernel) (Nat.le_of_ble_eq_true rfl) (fun p e s m below meth c A H0 Q C K => w_f_X7_sheet C h K)
def i_X7_spare_21 (S : St) (x1 : Int32) (x2 : Int32) (x3 : Int32) : Option ((St × Int32 × Int32) ⊕ (St × Int32 × Int32)) :=
  if (S 0 6) ≤ x3 then (some (.inr (S, x2, x3))) else (bd (f_X7_findMany S x3) fun r32 => if r32.1 = x1 then (some (.inl (r32.2, x2 ||| (shl32 ((1 : Int32)) x3), x3 + (1 : Int32)))) else (some (.inl (r32.2, x2 ||| ((0 : Int32)), x3 + (1 : Int32)))))
set_option maxHeartbeats 4000000 in
set_option maxRecDepth 100000 in
theorem w_i_X7_spare_21 {G : Geo} {p : Program} {l : Launch} {e : Env} {s : State} {m : MethodId} {args : Array Value} {below : List Frame} {meth : Method} {c : Code} {A : Nat → Prop} {H0 : Heap} {Q : State → Prop} (C : Cx G RX7 cX7_spare 4 p s m args c) {S : St} {x1 : Int32} {x2 : Int32} {x3 : Int32} {o : (St × Int32 × Int32) ⊕ (St × Int32 × Int32)} (h : i_X7_spare_21 S x1 x2 x3 = some o) (Kn : ∀ q, o = .inl q → ∀ (H : Heap) (locs : List Loc) (ls : Array Slot), HM G A H0 q.1 H locs → lv_has ls 4 [(0, .ref (adr G 0)), (1, .int x1), (2, .int (q.2.1)), (3, .int (q.2.2))] → W p l e (rmK 3) s m args below meth c H locs 0 0 Q (F0 m 21 ls [])) (Kt : ∀ q, o = .inr q → ∀ (H : Heap) (locs : List Loc) (ls : Array Slot), HM G A H0 q.1 H locs → lv_has ls 4 [(2, .int (q.2.1))] → W p l e (rmK 3) s m args below meth c H locs 0 0 Q (F0 m 54 ls [])) : ∀ (H : Heap) (locs : List Loc) (ls : Array Slot), HM G A H0 S H locs → lv_has ls 4 [(0, .ref (adr G 0)), (1, .int x1), (2, .int x2), (3, .int x3)] → W p l e (rmK 3) s m args below meth c H locs 0 0 Q (F0 m 21 ls []) := by
  obtain ⟨hx, hb, -⟩ := id C
  intro H locs ls hW hl
  unfold i_X7_spare_21 at h
  refine lv_iload_n hx hb dX7_spare_21 rfl (lv_at hl 3 rfl) ?_
  refine lv_aload_n hx hb dX7_spare_22 rfl (lv_at hl 0 rfl) ?_
  refine gf_RX7_74 C hW dX7_spare_23 ?_
  refine lv_icmp_ge (tgt := 54) hx hb dX7_spare_26 (by decide) (fun b26 => ?_) (fun b26 => ?_)
  · have h := it_t b26 h
    obtain rfl := Option.some.inj h
    exact Kt _ rfl _ _ _ hW (lv_sub hl [2] rfl)
  · have h := it_f b26 h
    refine lv_iload_n hx hb dX7_spare_29 rfl (lv_at hl 2 rfl) ?_
    refine lv_aload_n hx hb dX7_spare_30 rfl (lv_at hl 0 rfl) ?_
    refine lv_iload_n hx hb dX7_spare_31 rfl (lv_at hl 3 rfl) ?_
    obtain ⟨r32, r32h, h⟩ := bd_some h
    refine x_backI hW (x_runV (As := [.int x3]) (rest := [.int x2]) C hW (c_X7_findMany l G r32h H.size) cv_RX7_191 rv_X7 hl.1 rfl rfl ⟨by decide, by decide⟩ (Nat.le_of_ble_eq_true rfl) ⟨Nat.zero_le _, Nat.zero_le _⟩ dX7_spare_32) (fun H locs hW => ?_)
    refine lv_iload_n hx hb dX7_spare_35 rfl (lv_at hl 1 rfl) ?_
    refine lv_icmp_ne (tgt := 45) hx hb dX7_spare_36 (by decide) (fun b36 => ?_) (fun b36 => ?_)
    · have h := it_f b36 h
      refine lv_iconst (v := 0) hx hb dX7_spare_45 (by decide) ?_
      refine lv_ior hx hb dX7_spare_46 ?_
      refine lv_istore_n (lv' := [(2, .int (x2 ||| ((0 : Int32)))), (0, .ref (adr G 0)), (1, .int x1), (3, .int x3)]) hx hb dX7_spare_47 rfl hl (by decide) rfl (fun ls hl => ?_)
      refine lv_iinc (v := (x3 + (1 : Int32))) (lv' := [(3, .int (x3 + (1 : Int32))), (2, .int (x2 ||| ((0 : Int32)))), (0, .ref (adr G 0)), (1, .int x1)]) hx hb dX7_spare_48 hl (k := 3) rfl rfl (by decide) rfl (fun ls hl => ?_)
      refine lv_goto (tgt := 21) hx hb dX7_spare_51 (by decide) ?_
      obtain rfl := Option.some.inj h
      exact Kn _ rfl _ _ _ hW (lv_sub hl [2, 3, 1, 0] rfl)
    · have h := it_t b36 h
      refine lv_iconst (v := 1) hx hb dX7_spare_39 (by decide) ?_
      refine lv_iload_n hx hb dX7_spare_40 rfl (lv_at hl 3 rfl) ?_
      refine lv_ishl hx hb dX7_spare_41 ?_
      refine lv_goto (tgt := 46) hx hb dX7_spare_42 (by decide) ?_
      refine lv_ior hx hb dX7_spare_46 ?_
      refine lv_istore_n (lv' := [(2, .int (x2 ||| (shl32 ((1 : Int32)) x3))), (0, .ref (adr G 0)), (1, .int x1), (3, .int x3)]) hx hb dX7_spare_47 rfl hl (by decide) rfl (fun ls hl => ?_)
      refine lv_iinc (v := (x3 + (1 : Int32))) (lv' := [(3, .int (x3 + (1 : Int32))), (2, .int (x2 ||| (shl32 ((1 : Int32)) x3))), (0, .ref (adr G 0)), (1, .int x1)]) hx hb dX7_spare_48 hl (k := 3) rfl rfl (by decide) rfl (fun ls hl => ?_)
      refine lv_goto (tgt := 21) hx hb dX7_spare_51 (by decide) ?_
      obtain rfl := Option.some.inj h
      exact Kn _ rfl _ _ _ hW (lv_sub hl [2, 3, 1, 0] rfl)
set_option maxHeartbeats 4000000 in
set_option maxRecDepth 100000 in
theorem l_i_X7_spare_21 {G : Geo} {p : Program} {l : Launch} {e : Env} {s : State} {m : MethodId} {args : Array Value} {below : List Frame} {meth : Method} {c : Code} {A : Nat → Prop} {H0 : Heap} {Q : State → Prop} (C : Cx G RX7 cX7_spare 4 p s m args c) {x1 : Int32} {n : Nat} {q0 : St × Int32 × Int32} {u : St × Int32 × Int32} (hq : iter (fun q : St × Int32 × Int32 => i_X7_spare_21 q.1 x1 q.2.1 q.2.2) n q0 = some u) (Kt : (fun q : St × Int32 × Int32 => ∀ (H : Heap) (locs : List Loc) (ls : Array Slot), HM G A H0 q.1 H locs → lv_has ls 4 [(2, .int (q.2.1))] → W p l e (rmK 3) s m args below meth c H locs 0 0 Q (F0 m 54 ls [])) u) : (fun q : St × Int32 × Int32 => ∀ (H : Heap) (locs : List Loc) (ls : Array Slot), HM G A H0 q.1 H locs → lv_has ls 4 [(0, .ref (adr G 0)), (1, .int x1), (2, .int (q.2.1)), (3, .int (q.2.2))] → W p l e (rmK 3) s m args below meth c H locs 0 0 Q (F0 m 21 ls [])) q0 :=
  iter_W (P := fun q : St × Int32 × Int32 => ∀ (H : Heap) (locs : List Loc) (ls : Array Slot), HM G A H0 q.1 H locs → lv_has ls 4 [(0, .ref (adr G 0)), (1, .int x1), (2, .int (q.2.1)), (3, .int (q.2.2))] → W p l e (rmK 3) s m args below meth c H locs 0 0 Q (F0 m 21 ls [])) (K := fun q : St × Int32 × Int32 => ∀ (H : Heap) (locs : List Loc) (ls : Array Slot), HM G A H0 q.1 H locs → lv_has ls 4 [(2, .int (q.2.1))] → W p l e (rmK 3) s m args below meth c H locs 0 0 Q (F0 m 54 ls [])) (fun q o hit Kn Kt => w_i_X7_spare_21 C  hit Kn Kt) n q0 u hq Kt
def f_X7_spare (S : St) : Option (Int32 × St) :=
  if (S 0 5) = 0 then (some ((-3 : Int32), S)) else (bd (f_X7_findMany S ((-9 : Int32))) fun r13 => bd (iter (fun q => i_X7_spare_21 q.1 r13.1 q.2.1 q.2.2) BIG (r13.2, (0 : Int32), (0 : Int32))) fun q21 => some (q21.2.1, q21.1))
set_option maxHeartbeats 4000000 in
set_option maxRecDepth 100000 in
theorem w_f_X7_spare {G : Geo} {p : Program} {l : Launch} {e : Env} {s : State} {m : MethodId} {args : Array Value} {below : List Frame} {meth : Method} {c : Code} {A : Nat → Prop} {H0 : Heap} {Q : State → Prop} (C : Cx G RX7 cX7_spare 4 p s m args c) {S : St}  {o : Int32 × St} (h : f_X7_spare S = some o) (K : KI 18 eM G A H0 cX7_spare p l e 3 s m args below meth c Q ((o).1) ((o).2)) : ∀ (H : Heap) (locs : List Loc) (ls : Array Slot), HM G A H0 S H locs → lv_has ls 4 [(0, .ref (adr G 0))] → W p l e (rmK 3) s m args below meth c H locs 0 0 Q (F0 m 0 ls []) := by
  obtain ⟨hx, hb, -⟩ := id C
  intro H locs ls hW hl
  unfold f_X7_spare at h
  refine lv_aload_n hx hb dX7_spare_0 rfl (lv_at hl 0 rfl) ?_
  refine gf_RX7_71 C hW dX7_spare_1 ?_
  refine lv_if_ne (tgt := 10) hx hb dX7_spare_4 (by decide) (fun b4 => ?_) (fun b4 => ?_)
  · have h := it_f b4 h
    refine lv_aload_n hx hb dX7_spare_10 rfl (lv_at hl 0 rfl) ?_
    refine lv_bipush (v := (-9)) hx hb dX7_spare_11 (by decide) ?_
    obtain ⟨r13, r13h, h⟩ := bd_some h
    refine x_backI hW (x_runV (As := [.int ((-9 : Int32))]) (rest := []) C hW (c_X7_findMany l G r13h H.size) cv_RX7_191 rv_X7 hl.1 rfl rfl ⟨by decide, by decide⟩ (Nat.le_of_ble_eq_true rfl) ⟨Nat.zero_le _, Nat.zero_le _⟩ dX7_spare_13) (fun H locs hW => ?_)
    refine lv_istore_n (lv' := [(1, .int (r13.1)), (0, .ref (adr G 0))]) hx hb dX7_spare_16 rfl hl (by decide) rfl (fun ls hl => ?_)
    refine lv_iconst (v := 0) hx hb dX7_spare_17 (by decide) ?_
    refine lv_istore_n (lv' := [(2, .int ((0 : Int32))), (1, .int (r13.1)), (0, .ref (adr G 0))]) hx hb dX7_spare_18 rfl hl (by decide) rfl (fun ls hl => ?_)
    refine lv_iconst (v := 0) hx hb dX7_spare_19 (by decide) ?_
    refine lv_istore_n (lv' := [(3, .int ((0 : Int32))), (2, .int ((0 : Int32))), (1, .int (r13.1)), (0, .ref (adr G 0))]) hx hb dX7_spare_20 rfl hl (by decide) rfl (fun ls hl => ?_)
    obtain ⟨q21, q21h, h⟩ := bd_some h
    refine l_i_X7_spare_21 C  q21h ?_ _ _ _ hW (lv_sub hl [3, 2, 1, 0] rfl)
    intro H locs ls hW hl
    refine lv_iload_n hx hb dX7_spare_54 rfl (lv_at hl 0 rfl) ?_
    obtain rfl := Option.some.inj h
    exact K _ _ _ _ dX7_spare_55 hW
  · have h := it_t b4 h
    refine lv_bipush (v := (-3)) hx hb dX7_spare_7 (by decide) ?_
    obtain rfl := Option.some.inj h
    exact K _ _ _ _ dX7_spare_9 hW
set_option maxRecDepth 100000 in
theorem c_X7_spare (l : Launch) (G : Geo) {S : St}  {o : Int32 × St} (h : f_X7_spare S = some o) : MI 18 eM G l yX7_spare cX7_spare 4 (some .int) 3 [.ref (adr G 0)] S o.1 o.2 :=
  mI_of (by decide +kernel) (Nat.le_of_ble_eq_true rfl) (fun p e s m below meth c A H0 Q C K => w_f_X7_spare C h K)
def f_X7_tell (S : St) (a0 : Int32) : Option (Int32 × St) :=
  bd (f_X7_isSwitch S a0) fun r2 => if r2 = true then (ck (okx a0 5) <| ck (okx a0 5) <| if (S 6 (ix a0)) = 1 then (bd (f_X7_begins S ((2 : Int32))) fun r50 => bd (f_X7_begins r50 ((1 : Int32))) fun r55 => some ((S 7 (ix a0)) + ((100 : Int32)), r55)) else if (S 6 (ix a0)) = 2 then (bd (f_X7_begins S ((3 : Int32))) fun r65 => bd (f_X7_begins r65 ((2 : Int32))) fun r70 => bd (f_X7_begins r70 ((1 : Int32))) fun r75 => bd (f_X7_begins r75 ((1 : Int32))) fun r80 => some ((((2 : Int32)) * (S 7 (ix a0))) + ((100 : Int32)), r80)) else (bd (f_X7_begins S ((1 : Int32))) fun r92 => some (S 7 (ix a0), r92))) else (some ((-1 : Int32), S))
set_option maxHeartbeats 4000000 in
set_option maxRecDepth 100000 in
theorem w_f_X7_tell {G : Geo} {p : Program} {l : Launch} {e : Env} {s : State} {m : MethodId} {args : Array Value} {below : List Frame} {meth : Method} {c : Code} {A : Nat → Prop} {H0 : Heap} {Q : State → Prop} (C : Cx G RX7 cX7_tell 3 p s m args c) {S : St} {a0 : Int32} {o : Int32 × St} (h : f_X7_tell S a0 = some o) (K : KI 18 eM G A H0 cX7_tell p l e 1 s m args below meth c Q ((o).1) ((o).2)) : ∀ (H : Heap) (locs : List Loc) (ls : Array Slot), HM G A H0 S H locs → lv_has ls 3 [(0, .ref (adr G 0)), (1, .int a0)] → W p l e (rmK 1) s m args below meth c H locs 0 0 Q (F0 m 0 ls []) := by
  obtain ⟨hx, hb, -⟩ := id C
  intro H locs ls hW hl
  unfold f_X7_tell at h
  refine lv_aload_n hx hb dX7_tell_0 rfl (lv_at hl 0 rfl) ?_
  refine lv_iload_n hx hb dX7_tell_1 rfl (lv_at hl 1 rfl) ?_
  obtain ⟨r2, r2h, h⟩ := bd_some h
  refine x_backI hW (x_runV (As := [.int a0]) (rest := []) C hW (c_X7_isSwitch l G r2h H.size) cv_RX7_133 rv_X7 hl.1 rfl rfl ⟨by decide, by decide⟩ (Nat.le_of_ble_eq_true rfl) ⟨Nat.zero_le _, Nat.zero_le _⟩ dX7_tell_2) (fun H locs hW => ?_)
  refine z_if_ne (tgt := 10) hx hb dX7_tell_5 (by decide) (fun b5 => ?_) (fun b5 => ?_)
  · have h := it_t b5 h
    refine lv_aload_n hx hb dX7_tell_10 rfl (lv_at hl 0 rfl) ?_
    refine gf_RX7_28 C hW dX7_tell_11 ?_
    refine lv_iload_n hx hb dX7_tell_14 rfl (lv_at hl 1 rfl) ?_
    obtain ⟨g15, h⟩ := ck_some h
    refine x_iald C hW (k := 7) (n := 5) (by decide) (fun _ => rfl) g15 dX7_tell_15 ?_
    refine lv_istore_n (lv' := [(2, .int (S 7 (ix a0))), (0, .ref (adr G 0)), (1, .int a0)]) hx hb dX7_tell_16 rfl hl (by decide) rfl (fun ls hl => ?_)
    refine lv_aload_n hx hb dX7_tell_17 rfl (lv_at hl 1 rfl) ?_
    refine gf_RX7_25 C hW dX7_tell_18 ?_
    refine lv_iload_n hx hb dX7_tell_21 rfl (lv_at hl 2 rfl) ?_
    obtain ⟨g22, h⟩ := ck_some h
    refine x_iald C hW (k := 6) (n := 5) (by decide) (fun _ => rfl) g22 dX7_tell_22 ?_
    by_cases v23_0 : (S 6 (ix a0)) = 1
    · have h := it_t v23_0 h
      refine lv_lookup (off := 25) (tgt := 48) hx hb dX7_tell_23 (by decide) (by rw [v23_0]; rfl) (by decide) ?_
      refine lv_aload_n hx hb dX7_tell_48 rfl (lv_at hl 1 rfl) ?_
      refine lv_iconst (v := 2) hx hb dX7_tell_49 (by decide) ?_
      obtain ⟨r50, r50h, h⟩ := bd_some h
      refine x_backV hW (x_runV (As := [.int ((2 : Int32))]) (rest := []) C hW (c_X7_begins l G r50h H.size) cv_RX7_209 rv_X7 hl.1 rfl rfl ⟨by decide, by decide⟩ (Nat.le_of_ble_eq_true rfl) ⟨Nat.zero_le _, Nat.zero_le _⟩ dX7_tell_50) (fun H locs hW => ?_)
      refine lv_aload_n hx hb dX7_tell_53 rfl (lv_at hl 1 rfl) ?_
      refine lv_iconst (v := 1) hx hb dX7_tell_54 (by decide) ?_
      obtain ⟨r55, r55h, h⟩ := bd_some h
      refine x_backV hW (x_runV (As := [.int ((1 : Int32))]) (rest := []) C hW (c_X7_begins l G r55h H.size) cv_RX7_209 rv_X7 hl.1 rfl rfl ⟨by decide, by decide⟩ (Nat.le_of_ble_eq_true rfl) ⟨Nat.zero_le _, Nat.zero_le _⟩ dX7_tell_55) (fun H locs hW => ?_)
      refine lv_iload_n hx hb dX7_tell_58 rfl (lv_at hl 0 rfl) ?_
      refine lv_bipush (v := 100) hx hb dX7_tell_59 (by decide) ?_
      refine lv_iadd hx hb dX7_tell_61 ?_
      obtain rfl := Option.some.inj h
      exact K _ _ _ _ dX7_tell_62 hW
    · have h := it_f v23_0 h
      by_cases v23_1 : (S 6 (ix a0)) = 2
      · have h := it_t v23_1 h
        refine lv_lookup (off := 40) (tgt := 63) hx hb dX7_tell_23 (by decide) (by rw [v23_1]; rfl) (by decide) ?_
        refine lv_aload_n hx hb dX7_tell_63 rfl (lv_at hl 1 rfl) ?_
        refine lv_iconst (v := 3) hx hb dX7_tell_64 (by decide) ?_
        obtain ⟨r65, r65h, h⟩ := bd_some h
        refine x_backV hW (x_runV (As := [.int ((3 : Int32))]) (rest := []) C hW (c_X7_begins l G r65h H.size) cv_RX7_209 rv_X7 hl.1 rfl rfl ⟨by decide, by decide⟩ (Nat.le_of_ble_eq_true rfl) ⟨Nat.zero_le _, Nat.zero_le _⟩ dX7_tell_65) (fun H locs hW => ?_)
        refine lv_aload_n hx hb dX7_tell_68 rfl (lv_at hl 1 rfl) ?_
        refine lv_iconst (v := 2) hx hb dX7_tell_69 (by decide) ?_
        obtain ⟨r70, r70h, h⟩ := bd_some h
        refine x_backV hW (x_runV (As := [.int ((2 : Int32))]) (rest := []) C hW (c_X7_begins l G r70h H.size) cv_RX7_209 rv_X7 hl.1 rfl rfl ⟨by decide, by decide⟩ (Nat.le_of_ble_eq_true rfl) ⟨Nat.zero_le _, Nat.zero_le _⟩ dX7_tell_70) (fun H locs hW => ?_)
        refine lv_aload_n hx hb dX7_tell_73 rfl (lv_at hl 1 rfl) ?_
        refine lv_iconst (v := 1) hx hb dX7_tell_74 (by decide) ?_
        obtain ⟨r75, r75h, h⟩ := bd_some h
        refine x_backV hW (x_runV (As := [.int ((1 : Int32))]) (rest := []) C hW (c_X7_begins l G r75h H.size) cv_RX7_209 rv_X7 hl.1 rfl rfl ⟨by decide, by decide⟩ (Nat.le_of_ble_eq_true rfl) ⟨Nat.zero_le _, Nat.zero_le _⟩ dX7_tell_75) (fun H locs hW => ?_)
        refine lv_aload_n hx hb dX7_tell_78 rfl (lv_at hl 1 rfl) ?_
        refine lv_iconst (v := 1) hx hb dX7_tell_79 (by decide) ?_
        obtain ⟨r80, r80h, h⟩ := bd_some h
        refine x_backV hW (x_runV (As := [.int ((1 : Int32))]) (rest := []) C hW (c_X7_begins l G r80h H.size) cv_RX7_209 rv_X7 hl.1 rfl rfl ⟨by decide, by decide⟩ (Nat.le_of_ble_eq_true rfl) ⟨Nat.zero_le _, Nat.zero_le _⟩ dX7_tell_80) (fun H locs hW => ?_)
        refine lv_iconst (v := 2) hx hb dX7_tell_83 (by decide) ?_
        refine lv_iload_n hx hb dX7_tell_84 rfl (lv_at hl 0 rfl) ?_
        refine lv_imul hx hb dX7_tell_85 ?_
        refine lv_bipush (v := 100) hx hb dX7_tell_86 (by decide) ?_
        refine lv_iadd hx hb dX7_tell_88 ?_
        obtain rfl := Option.some.inj h
        exact K _ _ _ _ dX7_tell_89 hW
      · have h := it_f v23_1 h
        have w23_0 := ne_i 1 1 (by decide) v23_0
        have w23_1 := ne_i 2 2 (by decide) v23_1
        refine lv_lookup (off := 67) (tgt := 90) hx hb dX7_tell_23 (by decide) (by simp [Op.lookupswitch.offset, w23_0, Ne.symm w23_0, w23_1, Ne.symm w23_1]) (by decide) ?_
        refine lv_aload_n hx hb dX7_tell_90 rfl (lv_at hl 1 rfl) ?_
        refine lv_iconst (v := 1) hx hb dX7_tell_91 (by decide) ?_
        obtain ⟨r92, r92h, h⟩ := bd_some h
        refine x_backV hW (x_runV (As := [.int ((1 : Int32))]) (rest := []) C hW (c_X7_begins l G r92h H.size) cv_RX7_209 rv_X7 hl.1 rfl rfl ⟨by decide, by decide⟩ (Nat.le_of_ble_eq_true rfl) ⟨Nat.zero_le _, Nat.zero_le _⟩ dX7_tell_92) (fun H locs hW => ?_)
        refine lv_iload_n hx hb dX7_tell_95 rfl (lv_at hl 0 rfl) ?_
        obtain rfl := Option.some.inj h
        exact K _ _ _ _ dX7_tell_96 hW
  · have h := it_f b5 h
    refine lv_iconst (v := (-1)) hx hb dX7_tell_8 (by decide) ?_
    obtain rfl := Option.some.inj h
    exact K _ _ _ _ dX7_tell_9 hW
set_option maxRecDepth 100000 in
theorem c_X7_tell (l : Launch) (G : Geo) {S : St} {a0 : Int32} {o : Int32 × St} (h : f_X7_tell S a0 = some o) : MI 18 eM G l yX7_tell cX7_tell 3 (some .int) 1 [.ref (adr G 0), .int a0] S o.1 o.2 :=
  mI_of (by decide +kernel) (Nat.le_of_ble_eq_true rfl) (fun p e s m below meth c A H0 Q C K => w_f_X7_tell C h K)
def f_X7_trace (S : St) : Option (Int32) :=
  some (S 0 1)
set_option maxHeartbeats 4000000 in
set_option maxRecDepth 100000 in
theorem w_f_X7_trace {G : Geo} {p : Program} {l : Launch} {e : Env} {s : State} {m : MethodId} {args : Array Value} {below : List Frame} {meth : Method} {c : Code} {A : Nat → Prop} {H0 : Heap} {Q : State → Prop} (C : Cx G RX7 cX7_trace 1 p s m args c) {S : St}  {o : Int32} (h : f_X7_trace S = some o) (K : KI 18 eM G A H0 cX7_trace p l e 0 s m args below meth c Q o S) : ∀ (H : Heap) (locs : List Loc) (ls : Array Slot), HM G A H0 S H locs → lv_has ls 1 [(0, .ref (adr G 0))] → W p l e (rmK 0) s m args below meth c H locs 0 0 Q (F0 m 0 ls []) := by
  obtain ⟨hx, hb, -⟩ := id C
  intro H locs ls hW hl
  unfold f_X7_trace at h
  refine lv_aload_n hx hb dX7_trace_0 rfl (lv_at hl 0 rfl) ?_
  refine gf_RX7_206 C hW dX7_trace_1 ?_
  obtain rfl := Option.some.inj h
  exact K _ _ _ _ dX7_trace_4 hW
set_option maxRecDepth 100000 in
theorem c_X7_trace (l : Launch) (G : Geo) {S : St}  {o : Int32} (h : f_X7_trace S = some o) : MI 18 eM G l yX7_trace cX7_trace 1 (some .int) 0 [.ref (adr G 0)] S o S :=
  mI_of (by decide +kernel) (Nat.le_of_ble_eq_true rfl) (fun p e s m below meth c A H0 Q C K => w_f_X7_trace C h K)
def f_X7_turn (S : St) (a0 : Int32) (a1 : Int32) : Option (Int32 × St) :=
  bd (f_X7_isSwitch S a0) fun r2 => if r2 = true then (bd (f_X7_within a1 ((1 : Int32)) ((4 : Int32))) fun r13 => if r13 = true then (ck (okx a0 5) <| ck (okx a0 5) <| some (S 7 (ix a0), up S 7 (ix a0) a1)) else (some ((-2 : Int32), S))) else (some ((-1 : Int32), S))
set_option maxHeartbeats 4000000 in
set_option maxRecDepth 100000 in
theorem w_f_X7_turn {G : Geo} {p : Program} {l : Launch} {e : Env} {s : State} {m : MethodId} {args : Array Value} {below : List Frame} {meth : Method} {c : Code} {A : Nat → Prop} {H0 : Heap} {Q : State → Prop} (C : Cx G RX7 cX7_turn 4 p s m args c) {S : St} {a0 : Int32} {a1 : Int32} {o : Int32 × St} (h : f_X7_turn S a0 a1 = some o) (K : KI 18 eM G A H0 cX7_turn p l e 1 s m args below meth c Q ((o).1) ((o).2)) : ∀ (H : Heap) (locs : List Loc) (ls : Array Slot), HM G A H0 S H locs → lv_has ls 4 [(0, .ref (adr G 0)), (1, .int a0), (2, .int a1)] → W p l e (rmK 1) s m args below meth c H locs 0 0 Q (F0 m 0 ls []) := by
  obtain ⟨hx, hb, -⟩ := id C
  intro H locs ls hW hl
  unfold f_X7_turn at h
  refine lv_aload_n hx hb dX7_turn_0 rfl (lv_at hl 0 rfl) ?_
  refine lv_iload_n hx hb dX7_turn_1 rfl (lv_at hl 1 rfl) ?_
  obtain ⟨r2, r2h, h⟩ := bd_some h
  refine x_backI hW (x_runV (As := [.int a0]) (rest := []) C hW (c_X7_isSwitch l G r2h H.size) cv_RX7_133 rv_X7 hl.1 rfl rfl ⟨by decide, by decide⟩ (Nat.le_of_ble_eq_true rfl) ⟨Nat.zero_le _, Nat.zero_le _⟩ dX7_turn_2) (fun H locs hW => ?_)
  refine z_if_ne (tgt := 10) hx hb dX7_turn_5 (by decide) (fun b5 => ?_) (fun b5 => ?_)
  · have h := it_t b5 h
    refine lv_iload_n hx hb dX7_turn_10 rfl (lv_at hl 2 rfl) ?_
    refine lv_iconst (v := 1) hx hb dX7_turn_11 (by decide) ?_
    refine lv_iconst (v := 4) hx hb dX7_turn_12 (by decide) ?_
    obtain ⟨r13, r13h, h⟩ := bd_some h
    refine x_backI hW (x_runS (As := [.int a1, .int ((1 : Int32)), .int ((4 : Int32))]) (rest := []) C hW (c_X7_within l G (S := S) r13h H.size) cs_RX7_67 hl.1 rfl rfl ⟨by decide, by decide⟩ (Nat.le_of_ble_eq_true rfl) ⟨Nat.zero_le _, Nat.zero_le _⟩ dX7_turn_13) (fun H locs hW => ?_)
    refine z_if_ne (tgt := 22) hx hb dX7_turn_16 (by decide) (fun b16 => ?_) (fun b16 => ?_)
    · have h := it_t b16 h
      refine lv_aload_n hx hb dX7_turn_22 rfl (lv_at hl 0 rfl) ?_
      refine gf_RX7_28 C hW dX7_turn_23 ?_
      refine lv_iload_n hx hb dX7_turn_26 rfl (lv_at hl 1 rfl) ?_
      obtain ⟨g27, h⟩ := ck_some h
      refine x_iald C hW (k := 7) (n := 5) (by decide) (fun _ => rfl) g27 dX7_turn_27 ?_
      refine lv_istore_n (lv' := [(3, .int (S 7 (ix a0))), (0, .ref (adr G 0)), (1, .int a0), (2, .int a1)]) hx hb dX7_turn_28 rfl hl (by decide) rfl (fun ls hl => ?_)
      refine lv_aload_n hx hb dX7_turn_29 rfl (lv_at hl 1 rfl) ?_
      refine gf_RX7_28 C hW dX7_turn_30 ?_
      refine lv_iload_n hx hb dX7_turn_33 rfl (lv_at hl 2 rfl) ?_
      refine lv_iload_n hx hb dX7_turn_34 rfl (lv_at hl 3 rfl) ?_
      obtain ⟨g35, h⟩ := ck_some h
      refine x_iast C hW (k := 7) (n := 5) (by decide) (fun _ => rfl) g35 dX7_turn_35 (fun H locs hW => ?_)
      refine lv_iload_n hx hb dX7_turn_36 rfl (lv_at hl 0 rfl) ?_
      obtain rfl := Option.some.inj h
      exact K _ _ _ _ dX7_turn_37 hW
    · have h := it_f b16 h
      refine lv_bipush (v := (-2)) hx hb dX7_turn_19 (by decide) ?_
      obtain rfl := Option.some.inj h
      exact K _ _ _ _ dX7_turn_21 hW
  · have h := it_f b5 h
    refine lv_iconst (v := (-1)) hx hb dX7_turn_8 (by decide) ?_
    obtain rfl := Option.some.inj h
    exact K _ _ _ _ dX7_turn_9 hW
set_option maxRecDepth 100000 in
theorem c_X7_turn (l : Launch) (G : Geo) {S : St} {a0 : Int32} {a1 : Int32} {o : Int32 × St} (h : f_X7_turn S a0 a1 = some o) : MI 18 eM G l yX7_turn cX7_turn 4 (some .int) 1 [.ref (adr G 0), .int a0, .int a1] S o.1 o.2 :=
  mI_of (by decide +kernel) (Nat.le_of_ble_eq_true rfl) (fun p e s m below meth c A H0 Q C K => w_f_X7_turn C h K)
def i_X7_turnings_22 (S : St) (x1 : Int32) (x2 : Int32) (x3 : Int32) (x4 : Int32) : Option ((St × Int32 × Int32) ⊕ (St × Int32 × Int32)) :=
  if ((4 : Int32)) < x4 then (some (.inr (S, x3, x4))) else (ck (okx x1 5) <| bd (f_X7_areSo (up S 7 (ix x1) x4)) fun r38 => if r38 = false then (some (.inl (up S 7 (ix x1) x4, x3 ||| ((0 : Int32)), x4 + (1 : Int32)))) else (some (.inl (up S 7 (ix x1) x4, x3 ||| (shl32 ((1 : Int32)) x4), x4 + (1 : Int32)))))
set_option maxHeartbeats 4000000 in
set_option maxRecDepth 100000 in
theorem w_i_X7_turnings_22 {G : Geo} {p : Program} {l : Launch} {e : Env} {s : State} {m : MethodId} {args : Array Value} {below : List Frame} {meth : Method} {c : Code} {A : Nat → Prop} {H0 : Heap} {Q : State → Prop} (C : Cx G RX7 cX7_turnings 5 p s m args c) {S : St} {x1 : Int32} {x2 : Int32} {x3 : Int32} {x4 : Int32} {o : (St × Int32 × Int32) ⊕ (St × Int32 × Int32)} (h : i_X7_turnings_22 S x1 x2 x3 x4 = some o) (Kn : ∀ q, o = .inl q → ∀ (H : Heap) (locs : List Loc) (ls : Array Slot), HM G A H0 q.1 H locs → lv_has ls 5 [(0, .ref (adr G 0)), (1, .int x1), (2, .int x2), (3, .int (q.2.1)), (4, .int (q.2.2))] → W p l e (rmK 2) s m args below meth c H locs 0 0 Q (F0 m 22 ls [])) (Kt : ∀ q, o = .inr q → ∀ (H : Heap) (locs : List Loc) (ls : Array Slot), HM G A H0 q.1 H locs → lv_has ls 5 [(0, .ref (adr G 0)), (1, .int x1), (2, .int x2), (3, .int (q.2.1))] → W p l e (rmK 2) s m args below meth c H locs 0 0 Q (F0 m 60 ls [])) : ∀ (H : Heap) (locs : List Loc) (ls : Array Slot), HM G A H0 S H locs → lv_has ls 5 [(0, .ref (adr G 0)), (1, .int x1), (2, .int x2), (3, .int x3), (4, .int x4)] → W p l e (rmK 2) s m args below meth c H locs 0 0 Q (F0 m 22 ls []) := by
  obtain ⟨hx, hb, -⟩ := id C
  intro H locs ls hW hl
  unfold i_X7_turnings_22 at h
  refine lv_iload hx hb dX7_turnings_22 (lv_at hl 4 rfl) ?_
  refine lv_iconst (v := 4) hx hb dX7_turnings_24 (by decide) ?_
  refine lv_icmp_gt (tgt := 60) hx hb dX7_turnings_25 (by decide) (fun b25 => ?_) (fun b25 => ?_)
  · have h := it_t b25 h
    obtain rfl := Option.some.inj h
    exact Kt _ rfl _ _ _ hW (lv_sub hl [0, 1, 2, 3] rfl)
  · have h := it_f b25 h
    refine lv_aload_n hx hb dX7_turnings_28 rfl (lv_at hl 0 rfl) ?_
    refine gf_RX7_28 C hW dX7_turnings_29 ?_
    refine lv_iload_n hx hb dX7_turnings_32 rfl (lv_at hl 1 rfl) ?_
    refine lv_iload hx hb dX7_turnings_33 (lv_at hl 4 rfl) ?_
    obtain ⟨g35, h⟩ := ck_some h
    refine x_iast C hW (k := 7) (n := 5) (by decide) (fun _ => rfl) g35 dX7_turnings_35 (fun H locs hW => ?_)
    refine lv_iload_n hx hb dX7_turnings_36 rfl (lv_at hl 3 rfl) ?_
    refine lv_aload_n hx hb dX7_turnings_37 rfl (lv_at hl 0 rfl) ?_
    obtain ⟨r38, r38h, h⟩ := bd_some h
    refine x_backI hW (x_runV (As := []) (rest := [.int x3]) C hW (c_X7_areSo l G r38h H.size) cv_RX7_194 rv_X7 hl.1 rfl rfl ⟨by decide, by decide⟩ (Nat.le_of_ble_eq_true rfl) ⟨Nat.zero_le _, Nat.zero_le _⟩ dX7_turnings_38) (fun H locs hW => ?_)
    refine z_if_eq (tgt := 51) hx hb dX7_turnings_41 (by decide) (fun b41 => ?_) (fun b41 => ?_)
    · have h := it_t b41 h
      refine lv_iconst (v := 0) hx hb dX7_turnings_51 (by decide) ?_
      refine lv_ior hx hb dX7_turnings_52 ?_
      refine lv_istore_n (lv' := [(3, .int (x3 ||| ((0 : Int32)))), (0, .ref (adr G 0)), (1, .int x1), (2, .int x2), (4, .int x4)]) hx hb dX7_turnings_53 rfl hl (by decide) rfl (fun ls hl => ?_)
      refine lv_iinc (v := (x4 + (1 : Int32))) (lv' := [(4, .int (x4 + (1 : Int32))), (3, .int (x3 ||| ((0 : Int32)))), (0, .ref (adr G 0)), (1, .int x1), (2, .int x2)]) hx hb dX7_turnings_54 hl (k := 4) rfl rfl (by decide) rfl (fun ls hl => ?_)
      refine lv_goto (tgt := 22) hx hb dX7_turnings_57 (by decide) ?_
      obtain rfl := Option.some.inj h
      exact Kn _ rfl _ _ _ hW (lv_sub hl [2, 3, 4, 1, 0] rfl)
    · have h := it_f b41 h
      refine lv_iconst (v := 1) hx hb dX7_turnings_44 (by decide) ?_
      refine lv_iload hx hb dX7_turnings_45 (lv_at hl 4 rfl) ?_
      refine lv_ishl hx hb dX7_turnings_47 ?_
      refine lv_goto (tgt := 52) hx hb dX7_turnings_48 (by decide) ?_
      refine lv_ior hx hb dX7_turnings_52 ?_
      refine lv_istore_n (lv' := [(3, .int (x3 ||| (shl32 ((1 : Int32)) x4))), (0, .ref (adr G 0)), (1, .int x1), (2, .int x2), (4, .int x4)]) hx hb dX7_turnings_53 rfl hl (by decide) rfl (fun ls hl => ?_)
      refine lv_iinc (v := (x4 + (1 : Int32))) (lv' := [(4, .int (x4 + (1 : Int32))), (3, .int (x3 ||| (shl32 ((1 : Int32)) x4))), (0, .ref (adr G 0)), (1, .int x1), (2, .int x2)]) hx hb dX7_turnings_54 hl (k := 4) rfl rfl (by decide) rfl (fun ls hl => ?_)
      refine lv_goto (tgt := 22) hx hb dX7_turnings_57 (by decide) ?_
      obtain rfl := Option.some.inj h
      exact Kn _ rfl _ _ _ hW (lv_sub hl [2, 3, 4, 1, 0] rfl)
set_option maxHeartbeats 4000000 in
set_option maxRecDepth 100000 in
theorem l_i_X7_turnings_22 {G : Geo} {p : Program} {l : Launch} {e : Env} {s : State} {m : MethodId} {args : Array Value} {below : List Frame} {meth : Method} {c : Code} {A : Nat → Prop} {H0 : Heap} {Q : State → Prop} (C : Cx G RX7 cX7_turnings 5 p s m args c) {x1 : Int32} {x2 : Int32} {n : Nat} {q0 : St × Int32 × Int32} {u : St × Int32 × Int32} (hq : iter (fun q : St × Int32 × Int32 => i_X7_turnings_22 q.1 x1 x2 q.2.1 q.2.2) n q0 = some u) (Kt : (fun q : St × Int32 × Int32 => ∀ (H : Heap) (locs : List Loc) (ls : Array Slot), HM G A H0 q.1 H locs → lv_has ls 5 [(0, .ref (adr G 0)), (1, .int x1), (2, .int x2), (3, .int (q.2.1))] → W p l e (rmK 2) s m args below meth c H locs 0 0 Q (F0 m 60 ls [])) u) : (fun q : St × Int32 × Int32 => ∀ (H : Heap) (locs : List Loc) (ls : Array Slot), HM G A H0 q.1 H locs → lv_has ls 5 [(0, .ref (adr G 0)), (1, .int x1), (2, .int x2), (3, .int (q.2.1)), (4, .int (q.2.2))] → W p l e (rmK 2) s m args below meth c H locs 0 0 Q (F0 m 22 ls [])) q0 :=
  iter_W (P := fun q : St × Int32 × Int32 => ∀ (H : Heap) (locs : List Loc) (ls : Array Slot), HM G A H0 q.1 H locs → lv_has ls 5 [(0, .ref (adr G 0)), (1, .int x1), (2, .int x2), (3, .int (q.2.1)), (4, .int (q.2.2))] → W p l e (rmK 2) s m args below meth c H locs 0 0 Q (F0 m 22 ls [])) (K := fun q : St × Int32 × Int32 => ∀ (H : Heap) (locs : List Loc) (ls : Array Slot), HM G A H0 q.1 H locs → lv_has ls 5 [(0, .ref (adr G 0)), (1, .int x1), (2, .int x2), (3, .int (q.2.1))] → W p l e (rmK 2) s m args below meth c H locs 0 0 Q (F0 m 60 ls [])) (fun q o hit Kn Kt => w_i_X7_turnings_22 C  hit Kn Kt) n q0 u hq Kt
def f_X7_turnings (S : St) (a0 : Int32) : Option (Int32 × St) :=
  bd (f_X7_isSwitch S a0) fun r2 => if r2 = true then (ck (okx a0 5) <| bd (iter (fun q => i_X7_turnings_22 q.1 a0 (S 7 (ix a0)) q.2.1 q.2.2) BIG (S, (0 : Int32), (1 : Int32))) fun q22 => ck (okx a0 5) <| some (q22.2.1, up q22.1 7 (ix a0) (S 7 (ix a0)))) else (some ((-1 : Int32), S))
set_option maxHeartbeats 4000000 in
set_option maxRecDepth 100000 in
theorem w_f_X7_turnings {G : Geo} {p : Program} {l : Launch} {e : Env} {s : State} {m : MethodId} {args : Array Value} {below : List Frame} {meth : Method} {c : Code} {A : Nat → Prop} {H0 : Heap} {Q : State → Prop} (C : Cx G RX7 cX7_turnings 5 p s m args c) {S : St} {a0 : Int32} {o : Int32 × St} (h : f_X7_turnings S a0 = some o) (K : KI 18 eM G A H0 cX7_turnings p l e 2 s m args below meth c Q ((o).1) ((o).2)) : ∀ (H : Heap) (locs : List Loc) (ls : Array Slot), HM G A H0 S H locs → lv_has ls 5 [(0, .ref (adr G 0)), (1, .int a0)] → W p l e (rmK 2) s m args below meth c H locs 0 0 Q (F0 m 0 ls []) := by
  obtain ⟨hx, hb, -⟩ := id C
  intro H locs ls hW hl
  unfold f_X7_turnings at h
  refine lv_aload_n hx hb dX7_turnings_0 rfl (lv_at hl 0 rfl) ?_
  refine lv_iload_n hx hb dX7_turnings_1 rfl (lv_at hl 1 rfl) ?_
  obtain ⟨r2, r2h, h⟩ := bd_some h
  refine x_backI hW (x_runV (As := [.int a0]) (rest := []) C hW (c_X7_isSwitch l G r2h H.size) cv_RX7_133 rv_X7 hl.1 rfl rfl ⟨by decide, by decide⟩ (Nat.le_of_ble_eq_true rfl) ⟨Nat.zero_le _, Nat.zero_le _⟩ dX7_turnings_2) (fun H locs hW => ?_)
  refine z_if_ne (tgt := 10) hx hb dX7_turnings_5 (by decide) (fun b5 => ?_) (fun b5 => ?_)
  · have h := it_t b5 h
    refine lv_aload_n hx hb dX7_turnings_10 rfl (lv_at hl 0 rfl) ?_
    refine gf_RX7_28 C hW dX7_turnings_11 ?_
    refine lv_iload_n hx hb dX7_turnings_14 rfl (lv_at hl 1 rfl) ?_
    obtain ⟨g15, h⟩ := ck_some h
    refine x_iald C hW (k := 7) (n := 5) (by decide) (fun _ => rfl) g15 dX7_turnings_15 ?_
    refine lv_istore_n (lv' := [(2, .int (S 7 (ix a0))), (0, .ref (adr G 0)), (1, .int a0)]) hx hb dX7_turnings_16 rfl hl (by decide) rfl (fun ls hl => ?_)
    refine lv_iconst (v := 0) hx hb dX7_turnings_17 (by decide) ?_
    refine lv_istore_n (lv' := [(3, .int ((0 : Int32))), (2, .int (S 7 (ix a0))), (0, .ref (adr G 0)), (1, .int a0)]) hx hb dX7_turnings_18 rfl hl (by decide) rfl (fun ls hl => ?_)
    refine lv_iconst (v := 1) hx hb dX7_turnings_19 (by decide) ?_
    refine lv_istore (lv' := [(4, .int ((1 : Int32))), (3, .int ((0 : Int32))), (2, .int (S 7 (ix a0))), (0, .ref (adr G 0)), (1, .int a0)]) hx hb dX7_turnings_20 hl (by decide) rfl (fun ls hl => ?_)
    obtain ⟨q22, q22h, h⟩ := bd_some h
    refine l_i_X7_turnings_22 C  q22h ?_ _ _ _ hW (lv_sub hl [3, 4, 2, 1, 0] rfl)
    intro H locs ls hW hl
    refine lv_aload_n hx hb dX7_turnings_60 rfl (lv_at hl 0 rfl) ?_
    refine gf_RX7_28 C hW dX7_turnings_61 ?_
    refine lv_iload_n hx hb dX7_turnings_64 rfl (lv_at hl 1 rfl) ?_
    refine lv_iload_n hx hb dX7_turnings_65 rfl (lv_at hl 2 rfl) ?_
    obtain ⟨g66, h⟩ := ck_some h
    refine x_iast C hW (k := 7) (n := 5) (by decide) (fun _ => rfl) g66 dX7_turnings_66 (fun H locs hW => ?_)
    refine lv_iload_n hx hb dX7_turnings_67 rfl (lv_at hl 3 rfl) ?_
    obtain rfl := Option.some.inj h
    exact K _ _ _ _ dX7_turnings_68 hW
  · have h := it_f b5 h
    refine lv_iconst (v := (-1)) hx hb dX7_turnings_8 (by decide) ?_
    obtain rfl := Option.some.inj h
    exact K _ _ _ _ dX7_turnings_9 hW
set_option maxRecDepth 100000 in
theorem c_X7_turnings (l : Launch) (G : Geo) {S : St} {a0 : Int32} {o : Int32 × St} (h : f_X7_turnings S a0 = some o) : MI 18 eM G l yX7_turnings cX7_turnings 5 (some .int) 2 [.ref (adr G 0), .int a0] S o.1 o.2 :=
  mI_of (by decide +kernel) (Nat.le_of_ble_eq_true rfl) (fun p e s m below meth c A H0 Q C K => w_f_X7_turnings C h K)
def f_X7_wire (S : St) (a0 : Int32) (a1 : Int32) : Option (Int32 × St) :=
  bd (f_X7_isSwitch S a0) fun r2 => if r2 = false then (some ((-1 : Int32), S)) else (bd (f_X7_isLamp S a1) fun r10 => if r10 = true then (ck (okx a0 5) <| ck (okx a0 5) <| ck (okx a0 5) <| some ((shr32 ((up S 8 (ix a0) ((S 8 (ix a0)) ^^^ (shl32 ((1 : Int32)) a1))) 8 (ix a0)) a1) &&& ((1 : Int32)), up S 8 (ix a0) ((S 8 (ix a0)) ^^^ (shl32 ((1 : Int32)) a1)))) else (some ((-1 : Int32), S)))
set_option maxHeartbeats 4000000 in
set_option maxRecDepth 100000 in
theorem w_f_X7_wire {G : Geo} {p : Program} {l : Launch} {e : Env} {s : State} {m : MethodId} {args : Array Value} {below : List Frame} {meth : Method} {c : Code} {A : Nat → Prop} {H0 : Heap} {Q : State → Prop} (C : Cx G RX7 cX7_wire 3 p s m args c) {S : St} {a0 : Int32} {a1 : Int32} {o : Int32 × St} (h : f_X7_wire S a0 a1 = some o) (K : KI 18 eM G A H0 cX7_wire p l e 1 s m args below meth c Q ((o).1) ((o).2)) : ∀ (H : Heap) (locs : List Loc) (ls : Array Slot), HM G A H0 S H locs → lv_has ls 3 [(0, .ref (adr G 0)), (1, .int a0), (2, .int a1)] → W p l e (rmK 1) s m args below meth c H locs 0 0 Q (F0 m 0 ls []) := by
  obtain ⟨hx, hb, -⟩ := id C
  intro H locs ls hW hl
  unfold f_X7_wire at h
  refine lv_aload_n hx hb dX7_wire_0 rfl (lv_at hl 0 rfl) ?_
  refine lv_iload_n hx hb dX7_wire_1 rfl (lv_at hl 1 rfl) ?_
  obtain ⟨r2, r2h, h⟩ := bd_some h
  refine x_backI hW (x_runV (As := [.int a0]) (rest := []) C hW (c_X7_isSwitch l G r2h H.size) cv_RX7_133 rv_X7 hl.1 rfl rfl ⟨by decide, by decide⟩ (Nat.le_of_ble_eq_true rfl) ⟨Nat.zero_le _, Nat.zero_le _⟩ dX7_wire_2) (fun H locs hW => ?_)
  refine z_if_eq (tgt := 16) hx hb dX7_wire_5 (by decide) (fun b5 => ?_) (fun b5 => ?_)
  · have h := it_t b5 h
    refine lv_iconst (v := (-1)) hx hb dX7_wire_16 (by decide) ?_
    obtain rfl := Option.some.inj h
    exact K _ _ _ _ dX7_wire_17 hW
  · have h := it_f b5 h
    refine lv_aload_n hx hb dX7_wire_8 rfl (lv_at hl 0 rfl) ?_
    refine lv_iload_n hx hb dX7_wire_9 rfl (lv_at hl 2 rfl) ?_
    obtain ⟨r10, r10h, h⟩ := bd_some h
    refine x_backI hW (x_runV (As := [.int a1]) (rest := []) C hW (c_X7_isLamp l G r10h H.size) cv_RX7_127 rv_X7 hl.1 rfl rfl ⟨by decide, by decide⟩ (Nat.le_of_ble_eq_true rfl) ⟨Nat.zero_le _, Nat.zero_le _⟩ dX7_wire_10) (fun H locs hW => ?_)
    refine z_if_ne (tgt := 18) hx hb dX7_wire_13 (by decide) (fun b13 => ?_) (fun b13 => ?_)
    · have h := it_t b13 h
      refine lv_aload_n hx hb dX7_wire_18 rfl (lv_at hl 0 rfl) ?_
      refine gf_RX7_31 C hW dX7_wire_19 ?_
      refine lv_iload_n hx hb dX7_wire_22 rfl (lv_at hl 1 rfl) ?_
      refine lv_dup2_11 hx hb dX7_wire_23 rfl rfl ?_
      obtain ⟨g24, h⟩ := ck_some h
      refine x_iald C hW (k := 8) (n := 5) (by decide) (fun _ => rfl) g24 dX7_wire_24 ?_
      refine lv_iconst (v := 1) hx hb dX7_wire_25 (by decide) ?_
      refine lv_iload_n hx hb dX7_wire_26 rfl (lv_at hl 2 rfl) ?_
      refine lv_ishl hx hb dX7_wire_27 ?_
      refine lv_ixor hx hb dX7_wire_28 ?_
      obtain ⟨g29, h⟩ := ck_some h
      refine x_iast C hW (k := 8) (n := 5) (by decide) (fun _ => rfl) g29 dX7_wire_29 (fun H locs hW => ?_)
      refine lv_aload_n hx hb dX7_wire_30 rfl (lv_at hl 0 rfl) ?_
      refine gf_RX7_31 C hW dX7_wire_31 ?_
      refine lv_iload_n hx hb dX7_wire_34 rfl (lv_at hl 1 rfl) ?_
      obtain ⟨g35, h⟩ := ck_some h
      refine x_iald C hW (k := 8) (n := 5) (by decide) (fun _ => rfl) g35 dX7_wire_35 ?_
      refine lv_iload_n hx hb dX7_wire_36 rfl (lv_at hl 2 rfl) ?_
      refine lv_ishr hx hb dX7_wire_37 ?_
      refine lv_iconst (v := 1) hx hb dX7_wire_38 (by decide) ?_
      refine lv_iand hx hb dX7_wire_39 ?_
      obtain rfl := Option.some.inj h
      exact K _ _ _ _ dX7_wire_40 hW
    · have h := it_f b13 h
      refine lv_iconst (v := (-1)) hx hb dX7_wire_16 (by decide) ?_
      obtain rfl := Option.some.inj h
      exact K _ _ _ _ dX7_wire_17 hW
set_option maxRecDepth 100000 in
theorem c_X7_wire (l : Launch) (G : Geo) {S : St} {a0 : Int32} {a1 : Int32} {o : Int32 × St} (h : f_X7_wire S a0 a1 = some o) : MI 18 eM G l yX7_wire cX7_wire 3 (some .int) 1 [.ref (adr G 0), .int a0, .int a1] S o.1 o.2 :=
  mI_of (by decide +kernel) (Nat.le_of_ble_eq_true rfl) (fun p e s m below meth c A H0 Q C K => w_f_X7_wire C h K)
