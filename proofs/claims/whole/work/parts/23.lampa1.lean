def f_X6_day (S : St) (a0 : Int32) (a1 : Int32) (a2 : Int32) (a3 : Int32) (a4 : Int32) : Option (Int32 × St) :=
  bd (f_X6_sheetAt (up S 0 8 ((0 : Int32))) a0) fun r7 => op r7 (some ((-1 : Int32), up S 0 8 ((0 : Int32)))) fun k7 => ck (shX k7) <| bd (f_X6_isLane a1) fun r20 => if r20 = false then (some ((-2 : Int32), up S 0 8 ((0 : Int32)))) else (bd (f_X6_isIn a3 ((0 : Int32)) ((20 : Int32))) fun r31 => if r31 = false then (some ((-2 : Int32), up S 0 8 ((0 : Int32)))) else (bd (f_X6_isAskedOfDay a4) fun r39 => if r39 = true then (bd (f_X4_faultOfCells (up S 0 8 ((0 : Int32))) k7 a1 a2 (((2 : Int32)) * a3)) fun r56 => if r56 = 0 then (bd (f_X1_isMissing (up S 0 8 ((0 : Int32)))) fun r77 => if r77 = false then (bd (f_X6_refusalOfPairs (up S 0 8 ((0 : Int32))) k7 a2 a3) fun r92 => if r92 = 0 then (bd (f_X0_goThrough (up S 0 8 ((0 : Int32))) k7 a2 a3) fun r118 => bd (f_X6_ofDay r118 a4) fun r124 => some (r124, r118)) else (some (r92, up S 0 8 ((0 : Int32))))) else (some ((-3 : Int32), up S 0 8 ((0 : Int32))))) else (bd (f_X6_faulted (up S 0 8 ((0 : Int32))) r56) fun r69 => some (r69.1, r69.2))) else (some ((-2 : Int32), up S 0 8 ((0 : Int32))))))
set_option maxHeartbeats 4000000 in
set_option maxRecDepth 100000 in
theorem w_f_X6_day {G : Geo} {p : Program} {l : Launch} {e : Env} {s : State} {m : MethodId} {args : Array Value} {below : List Frame} {meth : Method} {c : Code} {A : Nat → Prop} {H0 : Heap} {Q : State → Prop} (C : Cx G RX6 cX6_day 9 p s m args c) {S : St} {a0 : Int32} {a1 : Int32} {a2 : Int32} {a3 : Int32} {a4 : Int32} {o : Int32 × St} (h : f_X6_day S a0 a1 a2 a3 a4 = some o) (K : KI 37 eX G A H0 cX6_day p l e 6 s m args below meth c Q ((o).1) ((o).2)) : ∀ (H : Heap) (locs : List Loc) (ls : Array Slot), HX G A H0 S H locs → lv_has ls 9 [(0, .ref (adr G 0)), (1, .int a0), (2, .int a1), (3, .int a2), (4, .int a3), (5, .int a4)] → W p l e (rmK 6) s m args below meth c H locs 0 0 Q (F0 m 0 ls []) := by
  obtain ⟨hx, hb, -⟩ := id C
  intro H locs ls hW hl
  unfold f_X6_day at h
  refine lv_aload_n hx hb dX6_day_0 rfl (lv_at hl 0 rfl) ?_
  refine lv_iconst (v := 0) hx hb dX6_day_1 (by decide) ?_
  refine pf_RX6_57 C hW dX6_day_2 (fun H locs hW => ?_)
  refine lv_aload_n hx hb dX6_day_5 rfl (lv_at hl 0 rfl) ?_
  refine lv_iload_n hx hb dX6_day_6 rfl (lv_at hl 1 rfl) ?_
  obtain ⟨r7, r7h, h⟩ := bd_some h
  refine x_backE hW (x_runV (As := [.int a0]) (rest := []) C hW (c_X6_sheetAt l G r7h H.size) cv_RX6_61 rv_X6 hl.1 rfl rfl ⟨by decide, by decide⟩ (Nat.le_of_ble_eq_true rfl) ⟨Nat.zero_le _, Nat.zero_le _⟩ dX6_day_7) (fun H locs hW => ?_)
  cases r7 with
  | none =>
    have h := op_n h
    refine lv_astoreN (lv' := [(6, .null), (0, .ref (adr G 0)), (1, .int a0), (2, .int a1), (3, .int a2), (4, .int a3), (5, .int a4)]) hx hb dX6_day_10 hl (by decide) rfl (fun ls hl => ?_)
    refine lv_aloadN hx hb dX6_day_12 (lv_at hl 0 rfl) ?_
    refine lv_ifnonnullN hx hb dX6_day_14 ?_
    refine lv_iconst (v := (-1)) hx hb dX6_day_17 (by decide) ?_
    obtain rfl := Option.some.inj h
    exact K _ _ _ _ dX6_day_18 hW
  | some k7 =>
    have h := op_sm h
    obtain ⟨k7h, h⟩ := ck_some h
    refine lv_astore (lv' := [(6, .ref (adr G k7)), (0, .ref (adr G 0)), (1, .int a0), (2, .int a1), (3, .int a2), (4, .int a3), (5, .int a4)]) hx hb dX6_day_10 hl (by decide) rfl (fun ls hl => ?_)
    refine lv_aload hx hb dX6_day_12 (lv_at hl 0 rfl) ?_
    refine lv_ifnonnull (tgt := 19) hx hb dX6_day_14 (by decide) ?_
    refine lv_iload_n hx hb dX6_day_19 rfl (lv_at hl 3 rfl) ?_
    obtain ⟨r20, r20h, h⟩ := bd_some h
    refine x_backI hW (x_runS (As := [.int a1]) (rest := []) C hW (c_X6_isLane l G (S := up S 0 8 ((0 : Int32))) r20h H.size) cs_RX6_65 hl.1 rfl rfl ⟨by decide, by decide⟩ (Nat.le_of_ble_eq_true rfl) ⟨Nat.zero_le _, Nat.zero_le _⟩ dX6_day_20) (fun H locs hW => ?_)
    refine z_if_eq (tgt := 45) hx hb dX6_day_23 (by decide) (fun b23 => ?_) (fun b23 => ?_)
    · have h := it_t b23 h
      refine lv_bipush (v := (-2)) hx hb dX6_day_45 (by decide) ?_
      obtain rfl := Option.some.inj h
      exact K _ _ _ _ dX6_day_47 hW
    · have h := it_f b23 h
      refine lv_iload hx hb dX6_day_26 (lv_at hl 5 rfl) ?_
      refine lv_iconst (v := 0) hx hb dX6_day_28 (by decide) ?_
      refine lv_bipush (v := 20) hx hb dX6_day_29 (by decide) ?_
      obtain ⟨r31, r31h, h⟩ := bd_some h
      refine x_backI hW (x_runS (As := [.int a3, .int ((0 : Int32)), .int ((20 : Int32))]) (rest := []) C hW (c_X6_isIn l G (S := up S 0 8 ((0 : Int32))) r31h H.size) cs_RX6_134 hl.1 rfl rfl ⟨by decide, by decide⟩ (Nat.le_of_ble_eq_true rfl) ⟨Nat.zero_le _, Nat.zero_le _⟩ dX6_day_31) (fun H locs hW => ?_)
      refine z_if_eq (tgt := 45) hx hb dX6_day_34 (by decide) (fun b34 => ?_) (fun b34 => ?_)
      · have h := it_t b34 h
        refine lv_bipush (v := (-2)) hx hb dX6_day_45 (by decide) ?_
        obtain rfl := Option.some.inj h
        exact K _ _ _ _ dX6_day_47 hW
      · have h := it_f b34 h
        refine lv_iload hx hb dX6_day_37 (lv_at hl 6 rfl) ?_
        obtain ⟨r39, r39h, h⟩ := bd_some h
        refine x_backI hW (x_runS (As := [.int a4]) (rest := []) C hW (c_X6_isAskedOfDay l G (S := up S 0 8 ((0 : Int32))) r39h H.size) cs_RX6_149 hl.1 rfl rfl ⟨by decide, by decide⟩ (Nat.le_of_ble_eq_true rfl) ⟨Nat.zero_le _, Nat.zero_le _⟩ dX6_day_39) (fun H locs hW => ?_)
        refine z_if_ne (tgt := 48) hx hb dX6_day_42 (by decide) (fun b42 => ?_) (fun b42 => ?_)
        · have h := it_t b42 h
          refine lv_aload hx hb dX6_day_48 (lv_at hl 0 rfl) ?_
          refine lv_iload_n hx hb dX6_day_50 rfl (lv_at hl 3 rfl) ?_
          refine lv_iload_n hx hb dX6_day_51 rfl (lv_at hl 4 rfl) ?_
          refine lv_iconst (v := 2) hx hb dX6_day_52 (by decide) ?_
          refine lv_iload hx hb dX6_day_53 (lv_at hl 5 rfl) ?_
          refine lv_imul hx hb dX6_day_55 ?_
          obtain ⟨r56, r56h, h⟩ := bd_some h
          refine x_backI hW (x_runV (As := [.int a1, .int a2, .int (((2 : Int32)) * a3)]) (rest := []) C hW (c_X4_faultOfCells l G r56h H.size) cv_RX6_152 (rv_X4 k7h) hl.1 rfl rfl ⟨by decide, by decide⟩ (Nat.le_of_ble_eq_true rfl) ⟨Nat.zero_le _, Nat.zero_le _⟩ dX6_day_56) (fun H locs hW => ?_)
          refine lv_istore (lv' := [(7, .int r56), (6, .ref (adr G k7)), (0, .ref (adr G 0)), (1, .int a0), (2, .int a1), (3, .int a2), (4, .int a3), (5, .int a4)]) hx hb dX6_day_59 hl (by decide) rfl (fun ls hl => ?_)
          refine lv_iload hx hb dX6_day_61 (lv_at hl 0 rfl) ?_
          refine lv_if_eq (tgt := 73) hx hb dX6_day_63 (by decide) (fun b63 => ?_) (fun b63 => ?_)
          · have h := it_t b63 h
            refine lv_aload_n hx hb dX6_day_73 rfl (lv_at hl 2 rfl) ?_
            refine gf_RX6_14 C hW dX6_day_74 ?_
            obtain ⟨r77, r77h, h⟩ := bd_some h
            refine x_backI hW (x_runV (As := []) (rest := []) C hW (c_X1_isMissing l G r77h H.size) cv_RX6_156 rv_X1 hl.1 rfl rfl ⟨by decide, by decide⟩ (Nat.le_of_ble_eq_true rfl) ⟨Nat.zero_le _, Nat.zero_le _⟩ dX6_day_77) (fun H locs hW => ?_)
            refine z_if_eq (tgt := 86) hx hb dX6_day_80 (by decide) (fun b80 => ?_) (fun b80 => ?_)
            · have h := it_t b80 h
              refine lv_aload_n hx hb dX6_day_86 rfl (lv_at hl 2 rfl) ?_
              refine lv_aload hx hb dX6_day_87 (lv_at hl 1 rfl) ?_
              refine lv_iload_n hx hb dX6_day_89 rfl (lv_at hl 5 rfl) ?_
              refine lv_iload hx hb dX6_day_90 (lv_at hl 6 rfl) ?_
              obtain ⟨r92, r92h, h⟩ := bd_some h
              refine x_backI hW (x_runV (As := [.ref (adr G k7), .int a2, .int a3]) (rest := []) C hW (c_X6_refusalOfPairs l G r92h H.size) cv_RX6_160 rv_X6 hl.1 rfl rfl ⟨by decide, by decide⟩ (Nat.le_of_ble_eq_true rfl) ⟨Nat.zero_le _, Nat.zero_le _⟩ dX6_day_92) (fun H locs hW => ?_)
              refine lv_istore (lv' := [(8, .int r92), (7, .int r56), (6, .ref (adr G k7)), (0, .ref (adr G 0)), (1, .int a0), (2, .int a1), (3, .int a2), (4, .int a3), (5, .int a4)]) hx hb dX6_day_95 hl (by decide) rfl (fun ls hl => ?_)
              refine lv_iload hx hb dX6_day_97 (lv_at hl 0 rfl) ?_
              refine lv_if_eq (tgt := 105) hx hb dX6_day_99 (by decide) (fun b99 => ?_) (fun b99 => ?_)
              · have h := it_t b99 h
                refine lv_aload_n hx hb dX6_day_105 rfl (lv_at hl 3 rfl) ?_
                refine gf_RX6_42 C hW dX6_day_106 ?_
                refine lv_aload_n hx hb dX6_day_109 rfl (lv_at hl 3 rfl) ?_
                refine gf_RX6_14 C hW dX6_day_110 ?_
                refine lv_aload hx hb dX6_day_113 (lv_at hl 2 rfl) ?_
                refine lv_iload_n hx hb dX6_day_115 rfl (lv_at hl 6 rfl) ?_
                refine lv_iload hx hb dX6_day_116 (lv_at hl 7 rfl) ?_
                obtain ⟨r118, r118h, h⟩ := bd_some h
                refine x_backV hW (x_runV (As := [.ref (adr G 1), .ref (adr G k7), .int a2, .int a3]) (rest := []) C hW (c_X0_goThrough l G r118h H.size) cv_RX6_164 rv_X0 hl.1 rfl rfl ⟨by decide, by decide⟩ (Nat.le_of_ble_eq_true rfl) ⟨Nat.zero_le _, Nat.zero_le _⟩ dX6_day_118) (fun H locs hW => ?_)
                refine lv_aload_n hx hb dX6_day_121 rfl (lv_at hl 3 rfl) ?_
                refine lv_iload hx hb dX6_day_122 (lv_at hl 8 rfl) ?_
                obtain ⟨r124, r124h, h⟩ := bd_some h
                refine x_backI hW (x_runV (As := [.int a4]) (rest := []) C hW (c_X6_ofDay l G r124h H.size) cv_RX6_168 rv_X6 hl.1 rfl rfl ⟨by decide, by decide⟩ (Nat.le_of_ble_eq_true rfl) ⟨Nat.zero_le _, Nat.zero_le _⟩ dX6_day_124) (fun H locs hW => ?_)
                obtain rfl := Option.some.inj h
                exact K _ _ _ _ dX6_day_127 hW
              · have h := it_f b99 h
                refine lv_iload hx hb dX6_day_102 (lv_at hl 0 rfl) ?_
                obtain rfl := Option.some.inj h
                exact K _ _ _ _ dX6_day_104 hW
            · have h := it_f b80 h
              refine lv_bipush (v := (-3)) hx hb dX6_day_83 (by decide) ?_
              obtain rfl := Option.some.inj h
              exact K _ _ _ _ dX6_day_85 hW
          · have h := it_f b63 h
            refine lv_aload_n hx hb dX6_day_66 rfl (lv_at hl 2 rfl) ?_
            refine lv_iload hx hb dX6_day_67 (lv_at hl 0 rfl) ?_
            obtain ⟨r69, r69h, h⟩ := bd_some h
            refine x_backI hW (x_runV (As := [.int r56]) (rest := []) C hW (c_X6_faulted l G r69h H.size) cv_RX6_77 rv_X6 hl.1 rfl rfl ⟨by decide, by decide⟩ (Nat.le_of_ble_eq_true rfl) ⟨Nat.zero_le _, Nat.zero_le _⟩ dX6_day_69) (fun H locs hW => ?_)
            obtain rfl := Option.some.inj h
            exact K _ _ _ _ dX6_day_72 hW
        · have h := it_f b42 h
          refine lv_bipush (v := (-2)) hx hb dX6_day_45 (by decide) ?_
          obtain rfl := Option.some.inj h
          exact K _ _ _ _ dX6_day_47 hW
set_option maxRecDepth 100000 in
theorem c_X6_day (l : Launch) (G : Geo) {S : St} {a0 : Int32} {a1 : Int32} {a2 : Int32} {a3 : Int32} {a4 : Int32} {o : Int32 × St} (h : f_X6_day S a0 a1 a2 a3 a4 = some o) : MI 37 eX G l yX6_day cX6_day 9 (some .int) 6 [.ref (adr G 0), .int a0, .int a1, .int a2, .int a3, .int a4] S o.1 o.2 :=
  mI_of (by decide +kernel) (Nat.le_of_ble_eq_true rfl) (fun p e s m below meth c A H0 Q C K => w_f_X6_day C h K)
def f_X6_doubleBody (S : St) (a0 : Int32) : Option (Int32 × St) :=
  bd (f_X6_leave S ((3 : Int32))) fun r2 => bd (f_X6_broadBody r2 a0) fun r7 => bd (f_X6_plainBody r7.2 a0) fun r14 => some (r7.1 + r14.1, r14.2)
set_option maxHeartbeats 4000000 in
set_option maxRecDepth 100000 in
theorem w_f_X6_doubleBody {G : Geo} {p : Program} {l : Launch} {e : Env} {s : State} {m : MethodId} {args : Array Value} {below : List Frame} {meth : Method} {c : Code} {A : Nat → Prop} {H0 : Heap} {Q : State → Prop} (C : Cx G RX6 cX6_doubleBody 3 p s m args c) {S : St} {a0 : Int32} {o : Int32 × St} (h : f_X6_doubleBody S a0 = some o) (K : KI 37 eX G A H0 cX6_doubleBody p l e 3 s m args below meth c Q ((o).1) ((o).2)) : ∀ (H : Heap) (locs : List Loc) (ls : Array Slot), HX G A H0 S H locs → lv_has ls 3 [(0, .ref (adr G 0)), (1, .int a0)] → W p l e (rmK 3) s m args below meth c H locs 0 0 Q (F0 m 0 ls []) := by
  obtain ⟨hx, hb, -⟩ := id C
  intro H locs ls hW hl
  unfold f_X6_doubleBody at h
  refine lv_aload_n hx hb dX6_doubleBody_0 rfl (lv_at hl 0 rfl) ?_
  refine lv_iconst (v := 3) hx hb dX6_doubleBody_1 (by decide) ?_
  obtain ⟨r2, r2h, h⟩ := bd_some h
  refine x_backV hW (x_runV (As := [.int ((3 : Int32))]) (rest := []) C hW (c_X6_leave l G r2h H.size) cv_RX6_271 rv_X6 hl.1 rfl rfl ⟨by decide, by decide⟩ (Nat.le_of_ble_eq_true rfl) ⟨Nat.zero_le _, Nat.zero_le _⟩ dX6_doubleBody_2) (fun H locs hW => ?_)
  refine lv_aload_n hx hb dX6_doubleBody_5 rfl (lv_at hl 0 rfl) ?_
  refine lv_iload_n hx hb dX6_doubleBody_6 rfl (lv_at hl 1 rfl) ?_
  obtain ⟨r7, r7h, h⟩ := bd_some h
  refine x_backI hW (x_runV (As := [.int a0]) (rest := []) C hW (c_X6_broadBody l G r7h H.size) cv_RX6_265 rv_X6 hl.1 rfl rfl ⟨by decide, by decide⟩ (Nat.le_of_ble_eq_true rfl) ⟨Nat.zero_le _, Nat.zero_le _⟩ dX6_doubleBody_7) (fun H locs hW => ?_)
  refine lv_istore_n (lv' := [(2, .int (r7.1)), (0, .ref (adr G 0)), (1, .int a0)]) hx hb dX6_doubleBody_10 rfl hl (by decide) rfl (fun ls hl => ?_)
  refine lv_iload_n hx hb dX6_doubleBody_11 rfl (lv_at hl 0 rfl) ?_
  refine lv_aload_n hx hb dX6_doubleBody_12 rfl (lv_at hl 1 rfl) ?_
  refine lv_iload_n hx hb dX6_doubleBody_13 rfl (lv_at hl 2 rfl) ?_
  obtain ⟨r14, r14h, h⟩ := bd_some h
  refine x_backI hW (x_runV (As := [.int a0]) (rest := [.int (r7.1)]) C hW (c_X6_plainBody l G r14h H.size) cv_RX6_268 rv_X6 hl.1 rfl rfl ⟨by decide, by decide⟩ (Nat.le_of_ble_eq_true rfl) ⟨Nat.zero_le _, Nat.zero_le _⟩ dX6_doubleBody_14) (fun H locs hW => ?_)
  refine lv_iadd hx hb dX6_doubleBody_17 ?_
  obtain rfl := Option.some.inj h
  exact K _ _ _ _ dX6_doubleBody_18 hW
set_option maxRecDepth 100000 in
theorem c_X6_doubleBody (l : Launch) (G : Geo) {S : St} {a0 : Int32} {o : Int32 × St} (h : f_X6_doubleBody S a0 = some o) : MI 37 eX G l yX6_doubleBody cX6_doubleBody 3 (some .int) 3 [.ref (adr G 0), .int a0] S o.1 o.2 :=
  mI_of (by decide +kernel) (Nat.le_of_ble_eq_true rfl) (fun p e s m below meth c A H0 Q C K => w_f_X6_doubleBody C h K)
def f_X6_fault (S : St) : Option (Int32) :=
  some (S 0 8)
set_option maxHeartbeats 4000000 in
set_option maxRecDepth 100000 in
theorem w_f_X6_fault {G : Geo} {p : Program} {l : Launch} {e : Env} {s : State} {m : MethodId} {args : Array Value} {below : List Frame} {meth : Method} {c : Code} {A : Nat → Prop} {H0 : Heap} {Q : State → Prop} (C : Cx G RX6 cX6_fault 1 p s m args c) {S : St}  {o : Int32} (h : f_X6_fault S = some o) (K : KI 37 eX G A H0 cX6_fault p l e 0 s m args below meth c Q o S) : ∀ (H : Heap) (locs : List Loc) (ls : Array Slot), HX G A H0 S H locs → lv_has ls 1 [(0, .ref (adr G 0))] → W p l e (rmK 0) s m args below meth c H locs 0 0 Q (F0 m 0 ls []) := by
  obtain ⟨hx, hb, -⟩ := id C
  intro H locs ls hW hl
  unfold f_X6_fault at h
  refine lv_aload_n hx hb dX6_fault_0 rfl (lv_at hl 0 rfl) ?_
  refine gf_RX6_57 C hW dX6_fault_1 ?_
  obtain rfl := Option.some.inj h
  exact K _ _ _ _ dX6_fault_4 hW
set_option maxRecDepth 100000 in
theorem c_X6_fault (l : Launch) (G : Geo) {S : St}  {o : Int32} (h : f_X6_fault S = some o) : MI 37 eX G l yX6_fault cX6_fault 1 (some .int) 0 [.ref (adr G 0)] S o S :=
  mI_of (by decide +kernel) (Nat.le_of_ble_eq_true rfl) (fun p e s m below meth c A H0 Q C K => w_f_X6_fault C h K)
def f_X6_ownBody (S : St) : Option (Int32 × St) :=
  bd (f_X6_leave S ((5 : Int32))) fun r2 => some ((70 : Int32), r2)
set_option maxHeartbeats 4000000 in
set_option maxRecDepth 100000 in
theorem w_f_X6_ownBody {G : Geo} {p : Program} {l : Launch} {e : Env} {s : State} {m : MethodId} {args : Array Value} {below : List Frame} {meth : Method} {c : Code} {A : Nat → Prop} {H0 : Heap} {Q : State → Prop} (C : Cx G RX6 cX6_ownBody 1 p s m args c) {S : St}  {o : Int32 × St} (h : f_X6_ownBody S = some o) (K : KI 37 eX G A H0 cX6_ownBody p l e 1 s m args below meth c Q ((o).1) ((o).2)) : ∀ (H : Heap) (locs : List Loc) (ls : Array Slot), HX G A H0 S H locs → lv_has ls 1 [(0, .ref (adr G 0))] → W p l e (rmK 1) s m args below meth c H locs 0 0 Q (F0 m 0 ls []) := by
  obtain ⟨hx, hb, -⟩ := id C
  intro H locs ls hW hl
  unfold f_X6_ownBody at h
  refine lv_aload_n hx hb dX6_ownBody_0 rfl (lv_at hl 0 rfl) ?_
  refine lv_iconst (v := 5) hx hb dX6_ownBody_1 (by decide) ?_
  obtain ⟨r2, r2h, h⟩ := bd_some h
  refine x_backV hW (x_runV (As := [.int ((5 : Int32))]) (rest := []) C hW (c_X6_leave l G r2h H.size) cv_RX6_271 rv_X6 hl.1 rfl rfl ⟨by decide, by decide⟩ (Nat.le_of_ble_eq_true rfl) ⟨Nat.zero_le _, Nat.zero_le _⟩ dX6_ownBody_2) (fun H locs hW => ?_)
  refine lv_bipush (v := 70) hx hb dX6_ownBody_5 (by decide) ?_
  obtain rfl := Option.some.inj h
  exact K _ _ _ _ dX6_ownBody_7 hW
set_option maxRecDepth 100000 in
theorem c_X6_ownBody (l : Launch) (G : Geo) {S : St}  {o : Int32 × St} (h : f_X6_ownBody S = some o) : MI 37 eX G l yX6_ownBody cX6_ownBody 1 (some .int) 1 [.ref (adr G 0)] S o.1 o.2 :=
  mI_of (by decide +kernel) (Nat.le_of_ble_eq_true rfl) (fun p e s m below meth c A H0 Q C K => w_f_X6_ownBody C h K)
def f_X6_lentBody (S : St) (a0 : Int32) : Option (Int32 × St) :=
  bd (f_X6_leave S ((4 : Int32))) fun r2 => some (a0, r2)
set_option maxHeartbeats 4000000 in
set_option maxRecDepth 100000 in
theorem w_f_X6_lentBody {G : Geo} {p : Program} {l : Launch} {e : Env} {s : State} {m : MethodId} {args : Array Value} {below : List Frame} {meth : Method} {c : Code} {A : Nat → Prop} {H0 : Heap} {Q : State → Prop} (C : Cx G RX6 cX6_lentBody 2 p s m args c) {S : St} {a0 : Int32} {o : Int32 × St} (h : f_X6_lentBody S a0 = some o) (K : KI 37 eX G A H0 cX6_lentBody p l e 1 s m args below meth c Q ((o).1) ((o).2)) : ∀ (H : Heap) (locs : List Loc) (ls : Array Slot), HX G A H0 S H locs → lv_has ls 2 [(0, .ref (adr G 0)), (1, .int a0)] → W p l e (rmK 1) s m args below meth c H locs 0 0 Q (F0 m 0 ls []) := by
  obtain ⟨hx, hb, -⟩ := id C
  intro H locs ls hW hl
  unfold f_X6_lentBody at h
  refine lv_aload_n hx hb dX6_lentBody_0 rfl (lv_at hl 0 rfl) ?_
  refine lv_iconst (v := 4) hx hb dX6_lentBody_1 (by decide) ?_
  obtain ⟨r2, r2h, h⟩ := bd_some h
  refine x_backV hW (x_runV (As := [.int ((4 : Int32))]) (rest := []) C hW (c_X6_leave l G r2h H.size) cv_RX6_271 rv_X6 hl.1 rfl rfl ⟨by decide, by decide⟩ (Nat.le_of_ble_eq_true rfl) ⟨Nat.zero_le _, Nat.zero_le _⟩ dX6_lentBody_2) (fun H locs hW => ?_)
  refine lv_iload_n hx hb dX6_lentBody_5 rfl (lv_at hl 1 rfl) ?_
  obtain rfl := Option.some.inj h
  exact K _ _ _ _ dX6_lentBody_6 hW
set_option maxRecDepth 100000 in
theorem c_X6_lentBody (l : Launch) (G : Geo) {S : St} {a0 : Int32} {o : Int32 × St} (h : f_X6_lentBody S a0 = some o) : MI 37 eX G l yX6_lentBody cX6_lentBody 2 (some .int) 1 [.ref (adr G 0), .int a0] S o.1 o.2 :=
  mI_of (by decide +kernel) (Nat.le_of_ble_eq_true rfl) (fun p e s m below meth c A H0 Q C K => w_f_X6_lentBody C h K)
def f_X6_feel (S : St) (a0 : Int32) : Option (Int32 × St) :=
  bd (f_X1_hasSwitch S a0) fun r5 => if r5 = true then (ck (okx a0 5) <| if (S 24 (ix a0)) = ((2 : Int32)) then (bd (f_X6_ownBody S) fun r27 => some (r27.1, r27.2)) else (bd (f_X6_lentBody S a0) fun r35 => some (r35.1, r35.2))) else (some ((-1 : Int32), S))
set_option maxHeartbeats 4000000 in
set_option maxRecDepth 100000 in
theorem w_f_X6_feel {G : Geo} {p : Program} {l : Launch} {e : Env} {s : State} {m : MethodId} {args : Array Value} {below : List Frame} {meth : Method} {c : Code} {A : Nat → Prop} {H0 : Heap} {Q : State → Prop} (C : Cx G RX6 cX6_feel 2 p s m args c) {S : St} {a0 : Int32} {o : Int32 × St} (h : f_X6_feel S a0 = some o) (K : KI 37 eX G A H0 cX6_feel p l e 2 s m args below meth c Q ((o).1) ((o).2)) : ∀ (H : Heap) (locs : List Loc) (ls : Array Slot), HX G A H0 S H locs → lv_has ls 2 [(0, .ref (adr G 0)), (1, .int a0)] → W p l e (rmK 2) s m args below meth c H locs 0 0 Q (F0 m 0 ls []) := by
  obtain ⟨hx, hb, -⟩ := id C
  intro H locs ls hW hl
  unfold f_X6_feel at h
  refine lv_aload_n hx hb dX6_feel_0 rfl (lv_at hl 0 rfl) ?_
  refine gf_RX6_14 C hW dX6_feel_1 ?_
  refine lv_iload_n hx hb dX6_feel_4 rfl (lv_at hl 1 rfl) ?_
  obtain ⟨r5, r5h, h⟩ := bd_some h
  refine x_backI hW (x_runV (As := [.int a0]) (rest := []) C hW (c_X1_hasSwitch l G r5h H.size) cv_RX6_113 rv_X1 hl.1 rfl rfl ⟨by decide, by decide⟩ (Nat.le_of_ble_eq_true rfl) ⟨Nat.zero_le _, Nat.zero_le _⟩ dX6_feel_5) (fun H locs hW => ?_)
  refine z_if_ne (tgt := 13) hx hb dX6_feel_8 (by decide) (fun b8 => ?_) (fun b8 => ?_)
  · have h := it_t b8 h
    refine lv_aload_n hx hb dX6_feel_13 rfl (lv_at hl 0 rfl) ?_
    refine gf_RX6_14 C hW dX6_feel_14 ?_
    refine gf_RX6_116 C hW dX6_feel_17 ?_
    refine lv_iload_n hx hb dX6_feel_20 rfl (lv_at hl 1 rfl) ?_
    obtain ⟨g21, h⟩ := ck_some h
    refine x_iald C hW (k := 24) (n := 5) (by decide) (fun _ => rfl) g21 dX6_feel_21 ?_
    refine lv_iconst (v := 2) hx hb dX6_feel_22 (by decide) ?_
    refine lv_icmp_ne (tgt := 33) hx hb dX6_feel_23 (by decide) (fun b23 => ?_) (fun b23 => ?_)
    · have h := it_f b23 h
      refine lv_aload_n hx hb dX6_feel_33 rfl (lv_at hl 0 rfl) ?_
      refine lv_iload_n hx hb dX6_feel_34 rfl (lv_at hl 1 rfl) ?_
      obtain ⟨r35, r35h, h⟩ := bd_some h
      refine x_backI hW (x_runV (As := [.int a0]) (rest := []) C hW (c_X6_lentBody l G r35h H.size) cv_RX6_278 rv_X6 hl.1 rfl rfl ⟨by decide, by decide⟩ (Nat.le_of_ble_eq_true rfl) ⟨Nat.zero_le _, Nat.zero_le _⟩ dX6_feel_35) (fun H locs hW => ?_)
      obtain rfl := Option.some.inj h
      exact K _ _ _ _ dX6_feel_38 hW
    · have h := it_t b23 h
      refine lv_aload_n hx hb dX6_feel_26 rfl (lv_at hl 0 rfl) ?_
      obtain ⟨r27, r27h, h⟩ := bd_some h
      refine x_backI hW (x_runV (As := []) (rest := []) C hW (c_X6_ownBody l G r27h H.size) cv_RX6_275 rv_X6 hl.1 rfl rfl ⟨by decide, by decide⟩ (Nat.le_of_ble_eq_true rfl) ⟨Nat.zero_le _, Nat.zero_le _⟩ dX6_feel_27) (fun H locs hW => ?_)
      refine lv_goto (tgt := 38) hx hb dX6_feel_30 (by decide) ?_
      obtain rfl := Option.some.inj h
      exact K _ _ _ _ dX6_feel_38 hW
  · have h := it_f b8 h
    refine lv_iconst (v := (-1)) hx hb dX6_feel_11 (by decide) ?_
    obtain rfl := Option.some.inj h
    exact K _ _ _ _ dX6_feel_12 hW
set_option maxRecDepth 100000 in
theorem c_X6_feel (l : Launch) (G : Geo) {S : St} {a0 : Int32} {o : Int32 × St} (h : f_X6_feel S a0 = some o) : MI 37 eX G l yX6_feel cX6_feel 2 (some .int) 2 [.ref (adr G 0), .int a0] S o.1 o.2 :=
  mI_of (by decide +kernel) (Nat.le_of_ble_eq_true rfl) (fun p e s m below meth c A H0 Q C K => w_f_X6_feel C h K)
def i_X6_fewest_84 (S : St) (x3 : Int32) (x4 : Int32) (x5 : Nat) (x7 : Int32) : Option ((St × Int32) ⊕ ((St × Int32) ⊕ (Int32 × St))) :=
  if (S 1 0) ≤ x7 then (some (.inr (.inl (S, x7)))) else (bd (f_X4_at S x5 (x3 + x7)) fun r102 => bd (f_X1_hasShade S x7 r102) fun r115 => if r115 = true then (ck (okx x7 5) <| ck (okx x7 5) <| bd (f_X6_wrapped (r102 - (S 23 (ix x7))) (S 22 (ix x7))) fun r153 => ck (okx x7 5) <| some (.inl (up S 21 (ix x7) r153, x7 + (1 : Int32)))) else (some (.inr (.inr ((-2 : Int32), S)))))
set_option maxHeartbeats 4000000 in
set_option maxRecDepth 100000 in
theorem w_i_X6_fewest_84 {G : Geo} {p : Program} {l : Launch} {e : Env} {s : State} {m : MethodId} {args : Array Value} {below : List Frame} {meth : Method} {c : Code} {A : Nat → Prop} {H0 : Heap} {Q : State → Prop} (C : Cx G RX6 cX6_fewest 9 p s m args c) {S : St} {x3 : Int32} {x4 : Int32} {x5 : Nat} {x7 : Int32} {o : (St × Int32) ⊕ ((St × Int32) ⊕ (Int32 × St))} (hx5 : shX x5) (h : i_X6_fewest_84 S x3 x4 x5 x7 = some o) (Kn : ∀ q, o = .inl q → ∀ (H : Heap) (locs : List Loc) (ls : Array Slot), HX G A H0 q.1 H locs → lv_has ls 9 [(0, .ref (adr G 0)), (3, .int x3), (4, .int x4), (5, .ref (adr G x5)), (7, .int (q.2))] → W p l e (rmK 6) s m args below meth c H locs 0 0 Q (F0 m 84 ls [])) (Kt : ∀ u, o = .inr u → (∀ q, u = .inl q → ∀ (H : Heap) (locs : List Loc) (ls : Array Slot), HX G A H0 q.1 H locs → lv_has ls 9 [(0, .ref (adr G 0)), (4, .int x4)] → W p l e (rmK 6) s m args below meth c H locs 0 0 Q (F0 m 163 ls [])) ∧ (∀ r, u = .inr r → KI 37 eX G A H0 cX6_fewest p l e 6 s m args below meth c Q ((r).1) ((r).2))) : ∀ (H : Heap) (locs : List Loc) (ls : Array Slot), HX G A H0 S H locs → lv_has ls 9 [(0, .ref (adr G 0)), (3, .int x3), (4, .int x4), (5, .ref (adr G x5)), (7, .int x7)] → W p l e (rmK 6) s m args below meth c H locs 0 0 Q (F0 m 84 ls []) := by
  obtain ⟨hx, hb, -⟩ := id C
  intro H locs ls hW hl
  unfold i_X6_fewest_84 at h
  refine lv_iload hx hb dX6_fewest_84 (lv_at hl 4 rfl) ?_
  refine lv_aload_n hx hb dX6_fewest_86 rfl (lv_at hl 0 rfl) ?_
  refine gf_RX6_14 C hW dX6_fewest_87 ?_
  refine gf_RX6_193 C hW dX6_fewest_90 ?_
  refine lv_icmp_ge (tgt := 163) hx hb dX6_fewest_93 (by decide) (fun b93 => ?_) (fun b93 => ?_)
  · have h := it_t b93 h
    obtain rfl := Option.some.inj h
    exact (Kt _ rfl).1 _ rfl _ _ _ hW (lv_sub hl [0, 2] rfl)
  · have h := it_f b93 h
    refine lv_aload hx hb dX6_fewest_96 (lv_at hl 3 rfl) ?_
    refine lv_iload_n hx hb dX6_fewest_98 rfl (lv_at hl 1 rfl) ?_
    refine lv_iload hx hb dX6_fewest_99 (lv_at hl 4 rfl) ?_
    refine lv_iadd hx hb dX6_fewest_101 ?_
    obtain ⟨r102, r102h, h⟩ := bd_some h
    refine x_backI hW (x_runV (As := [.int (x3 + x7)]) (rest := []) C hW (c_X4_at l G r102h H.size) cv_RX6_171 (rv_X4 hx5) hl.1 rfl rfl ⟨by decide, by decide⟩ (Nat.le_of_ble_eq_true rfl) ⟨Nat.zero_le _, Nat.zero_le _⟩ dX6_fewest_102) (fun H locs hW => ?_)
    refine lv_istore (lv' := [(8, .int r102), (0, .ref (adr G 0)), (3, .int x3), (4, .int x4), (5, .ref (adr G x5)), (7, .int x7)]) hx hb dX6_fewest_105 hl (by decide) rfl (fun ls hl => ?_)
    refine lv_aload_n hx hb dX6_fewest_107 rfl (lv_at hl 1 rfl) ?_
    refine gf_RX6_14 C hW dX6_fewest_108 ?_
    refine lv_iload hx hb dX6_fewest_111 (lv_at hl 5 rfl) ?_
    refine lv_iload hx hb dX6_fewest_113 (lv_at hl 0 rfl) ?_
    obtain ⟨r115, r115h, h⟩ := bd_some h
    refine x_backI hW (x_runV (As := [.int x7, .int r102]) (rest := []) C hW (c_X1_hasShade l G r115h H.size) cv_RX6_131 rv_X1 hl.1 rfl rfl ⟨by decide, by decide⟩ (Nat.le_of_ble_eq_true rfl) ⟨Nat.zero_le _, Nat.zero_le _⟩ dX6_fewest_115) (fun H locs hW => ?_)
    refine z_if_ne (tgt := 124) hx hb dX6_fewest_118 (by decide) (fun b118 => ?_) (fun b118 => ?_)
    · have h := it_t b118 h
      refine lv_aload_n hx hb dX6_fewest_124 rfl (lv_at hl 1 rfl) ?_
      refine gf_RX6_52 C hW dX6_fewest_125 ?_
      refine lv_iload hx hb dX6_fewest_128 (lv_at hl 5 rfl) ?_
      refine lv_iload hx hb dX6_fewest_130 (lv_at hl 0 rfl) ?_
      refine lv_aload_n hx hb dX6_fewest_132 rfl (lv_at hl 1 rfl) ?_
      refine gf_RX6_14 C hW dX6_fewest_133 ?_
      refine gf_RX6_107 C hW dX6_fewest_136 ?_
      refine lv_iload hx hb dX6_fewest_139 (lv_at hl 5 rfl) ?_
      obtain ⟨g141, h⟩ := ck_some h
      refine x_iald C hW (k := 23) (n := 5) (by decide) (fun _ => rfl) g141 dX6_fewest_141 ?_
      refine lv_isub hx hb dX6_fewest_142 ?_
      refine lv_aload_n hx hb dX6_fewest_143 rfl (lv_at hl 1 rfl) ?_
      refine gf_RX6_14 C hW dX6_fewest_144 ?_
      refine gf_RX6_104 C hW dX6_fewest_147 ?_
      refine lv_iload hx hb dX6_fewest_150 (lv_at hl 5 rfl) ?_
      obtain ⟨g152, h⟩ := ck_some h
      refine x_iald C hW (k := 22) (n := 5) (by decide) (fun _ => rfl) g152 dX6_fewest_152 ?_
      obtain ⟨r153, r153h, h⟩ := bd_some h
      refine x_backI hW (x_runS (As := [.int (r102 - (S 23 (ix x7))), .int (S 22 (ix x7))]) (rest := [.int x7, .ref (adr G 21)]) C hW (c_X6_wrapped l G (S := S) r153h H.size) cs_RX6_196 hl.1 rfl rfl ⟨by decide, by decide⟩ (Nat.le_of_ble_eq_true rfl) ⟨Nat.zero_le _, Nat.zero_le _⟩ dX6_fewest_153) (fun H locs hW => ?_)
      obtain ⟨g156, h⟩ := ck_some h
      refine x_iast C hW (k := 21) (n := 5) (by decide) (fun _ => rfl) g156 dX6_fewest_156 (fun H locs hW => ?_)
      refine lv_iinc (v := (x7 + (1 : Int32))) (lv' := [(7, .int (x7 + (1 : Int32))), (8, .int r102), (0, .ref (adr G 0)), (3, .int x3), (4, .int x4), (5, .ref (adr G x5))]) hx hb dX6_fewest_157 hl (k := 5) rfl rfl (by decide) rfl (fun ls hl => ?_)
      refine lv_goto (tgt := 84) hx hb dX6_fewest_160 (by decide) ?_
      obtain rfl := Option.some.inj h
      exact Kn _ rfl _ _ _ hW (lv_sub hl [2, 3, 4, 5, 0] rfl)
    · have h := it_f b118 h
      refine lv_bipush (v := (-2)) hx hb dX6_fewest_121 (by decide) ?_
      obtain rfl := Option.some.inj h
      exact (Kt _ rfl).2 _ rfl _ _ _ _ dX6_fewest_123 hW
set_option maxHeartbeats 4000000 in
set_option maxRecDepth 100000 in
theorem l_i_X6_fewest_84 {G : Geo} {p : Program} {l : Launch} {e : Env} {s : State} {m : MethodId} {args : Array Value} {below : List Frame} {meth : Method} {c : Code} {A : Nat → Prop} {H0 : Heap} {Q : State → Prop} (C : Cx G RX6 cX6_fewest 9 p s m args c) {x3 : Int32} {x4 : Int32} {x5 : Nat} {n : Nat} {q0 : St × Int32} {u : (St × Int32) ⊕ (Int32 × St)} (hx5 : shX x5) (hq : iter (fun q : St × Int32 => i_X6_fewest_84 q.1 x3 x4 x5 q.2) n q0 = some u) (Kt : (∀ q, u = .inl q → ∀ (H : Heap) (locs : List Loc) (ls : Array Slot), HX G A H0 q.1 H locs → lv_has ls 9 [(0, .ref (adr G 0)), (4, .int x4)] → W p l e (rmK 6) s m args below meth c H locs 0 0 Q (F0 m 163 ls [])) ∧ (∀ r, u = .inr r → KI 37 eX G A H0 cX6_fewest p l e 6 s m args below meth c Q ((r).1) ((r).2))) : (fun q : St × Int32 => ∀ (H : Heap) (locs : List Loc) (ls : Array Slot), HX G A H0 q.1 H locs → lv_has ls 9 [(0, .ref (adr G 0)), (3, .int x3), (4, .int x4), (5, .ref (adr G x5)), (7, .int (q.2))] → W p l e (rmK 6) s m args below meth c H locs 0 0 Q (F0 m 84 ls [])) q0 :=
  iter_W (P := fun q : St × Int32 => ∀ (H : Heap) (locs : List Loc) (ls : Array Slot), HX G A H0 q.1 H locs → lv_has ls 9 [(0, .ref (adr G 0)), (3, .int x3), (4, .int x4), (5, .ref (adr G x5)), (7, .int (q.2))] → W p l e (rmK 6) s m args below meth c H locs 0 0 Q (F0 m 84 ls [])) (K := fun u => (∀ q, u = .inl q → ∀ (H : Heap) (locs : List Loc) (ls : Array Slot), HX G A H0 q.1 H locs → lv_has ls 9 [(0, .ref (adr G 0)), (4, .int x4)] → W p l e (rmK 6) s m args below meth c H locs 0 0 Q (F0 m 163 ls [])) ∧ (∀ r, u = .inr r → KI 37 eX G A H0 cX6_fewest p l e 6 s m args below meth c Q ((r).1) ((r).2))) (fun q o hit Kn Kt => w_i_X6_fewest_84 C hx5 hit Kn Kt) n q0 u hq Kt
def f_X6_fewest (S : St) (a0 : Int32) (a1 : Int32) (a2 : Int32) (a3 : Int32) : Option (Int32 × St) :=
  bd (f_X1_isMissing (up S 0 8 ((0 : Int32)))) fun r9 => if r9 = false then (bd (f_X6_sheetAt (up S 0 8 ((0 : Int32))) a0) fun r20 => op r20 (some ((-1 : Int32), up S 0 8 ((0 : Int32)))) fun k20 => ck (shX k20) <| bd (f_X6_isLane a1) fun r33 => if r33 = false then (some ((-2 : Int32), up S 0 8 ((0 : Int32)))) else (bd (f_X6_isIn a3 ((-1 : Int32)) ((99 : Int32))) fun r44 => if r44 = true then (bd (f_X4_faultOfCells (up S 0 8 ((0 : Int32))) k20 a1 a2 ((up S 0 8 ((0 : Int32))) 1 0)) fun r64 => if r64 = 0 then (bd (iter (fun q => i_X6_fewest_84 q.1 a2 a3 k20 q.2) BIG (up S 0 8 ((0 : Int32)), (0 : Int32))) fun u84 => sm u84 (fun q84 => if a3 = ((-1 : Int32)) then (bd (f_X2_pressesFor q84.1 21) fun r181 => some (r181.1, r181.2)) else (bd (f_X2_placeInRow q84.1 21 a3) fun r201 => some (r201.1, r201.2))) fun w84 => some w84) else (bd (f_X6_faulted (up S 0 8 ((0 : Int32))) r64) fun r77 => some (r77.1, r77.2))) else (some ((-2 : Int32), up S 0 8 ((0 : Int32)))))) else (some ((-3 : Int32), up S 0 8 ((0 : Int32))))
set_option maxHeartbeats 4000000 in
set_option maxRecDepth 100000 in
theorem w_f_X6_fewest {G : Geo} {p : Program} {l : Launch} {e : Env} {s : State} {m : MethodId} {args : Array Value} {below : List Frame} {meth : Method} {c : Code} {A : Nat → Prop} {H0 : Heap} {Q : State → Prop} (C : Cx G RX6 cX6_fewest 9 p s m args c) {S : St} {a0 : Int32} {a1 : Int32} {a2 : Int32} {a3 : Int32} {o : Int32 × St} (h : f_X6_fewest S a0 a1 a2 a3 = some o) (K : KI 37 eX G A H0 cX6_fewest p l e 6 s m args below meth c Q ((o).1) ((o).2)) : ∀ (H : Heap) (locs : List Loc) (ls : Array Slot), HX G A H0 S H locs → lv_has ls 9 [(0, .ref (adr G 0)), (1, .int a0), (2, .int a1), (3, .int a2), (4, .int a3)] → W p l e (rmK 6) s m args below meth c H locs 0 0 Q (F0 m 0 ls []) := by
  obtain ⟨hx, hb, -⟩ := id C
  intro H locs ls hW hl
  unfold f_X6_fewest at h
  refine lv_aload_n hx hb dX6_fewest_0 rfl (lv_at hl 0 rfl) ?_
  refine lv_iconst (v := 0) hx hb dX6_fewest_1 (by decide) ?_
  refine pf_RX6_57 C hW dX6_fewest_2 (fun H locs hW => ?_)
  refine lv_aload_n hx hb dX6_fewest_5 rfl (lv_at hl 0 rfl) ?_
  refine gf_RX6_14 C hW dX6_fewest_6 ?_
  obtain ⟨r9, r9h, h⟩ := bd_some h
  refine x_backI hW (x_runV (As := []) (rest := []) C hW (c_X1_isMissing l G r9h H.size) cv_RX6_156 rv_X1 hl.1 rfl rfl ⟨by decide, by decide⟩ (Nat.le_of_ble_eq_true rfl) ⟨Nat.zero_le _, Nat.zero_le _⟩ dX6_fewest_9) (fun H locs hW => ?_)
  refine z_if_eq (tgt := 18) hx hb dX6_fewest_12 (by decide) (fun b12 => ?_) (fun b12 => ?_)
  · have h := it_t b12 h
    refine lv_aload_n hx hb dX6_fewest_18 rfl (lv_at hl 0 rfl) ?_
    refine lv_iload_n hx hb dX6_fewest_19 rfl (lv_at hl 1 rfl) ?_
    obtain ⟨r20, r20h, h⟩ := bd_some h
    refine x_backE hW (x_runV (As := [.int a0]) (rest := []) C hW (c_X6_sheetAt l G r20h H.size) cv_RX6_61 rv_X6 hl.1 rfl rfl ⟨by decide, by decide⟩ (Nat.le_of_ble_eq_true rfl) ⟨Nat.zero_le _, Nat.zero_le _⟩ dX6_fewest_20) (fun H locs hW => ?_)
    cases r20 with
    | none =>
      have h := op_n h
      refine lv_astoreN (lv' := [(5, .null), (0, .ref (adr G 0)), (1, .int a0), (2, .int a1), (3, .int a2), (4, .int a3)]) hx hb dX6_fewest_23 hl (by decide) rfl (fun ls hl => ?_)
      refine lv_aloadN hx hb dX6_fewest_25 (lv_at hl 0 rfl) ?_
      refine lv_ifnonnullN hx hb dX6_fewest_27 ?_
      refine lv_iconst (v := (-1)) hx hb dX6_fewest_30 (by decide) ?_
      obtain rfl := Option.some.inj h
      exact K _ _ _ _ dX6_fewest_31 hW
    | some k20 =>
      have h := op_sm h
      obtain ⟨k20h, h⟩ := ck_some h
      refine lv_astore (lv' := [(5, .ref (adr G k20)), (0, .ref (adr G 0)), (1, .int a0), (2, .int a1), (3, .int a2), (4, .int a3)]) hx hb dX6_fewest_23 hl (by decide) rfl (fun ls hl => ?_)
      refine lv_aload hx hb dX6_fewest_25 (lv_at hl 0 rfl) ?_
      refine lv_ifnonnull (tgt := 32) hx hb dX6_fewest_27 (by decide) ?_
      refine lv_iload_n hx hb dX6_fewest_32 rfl (lv_at hl 3 rfl) ?_
      obtain ⟨r33, r33h, h⟩ := bd_some h
      refine x_backI hW (x_runS (As := [.int a1]) (rest := []) C hW (c_X6_isLane l G (S := up S 0 8 ((0 : Int32))) r33h H.size) cs_RX6_65 hl.1 rfl rfl ⟨by decide, by decide⟩ (Nat.le_of_ble_eq_true rfl) ⟨Nat.zero_le _, Nat.zero_le _⟩ dX6_fewest_33) (fun H locs hW => ?_)
      refine z_if_eq (tgt := 50) hx hb dX6_fewest_36 (by decide) (fun b36 => ?_) (fun b36 => ?_)
      · have h := it_t b36 h
        refine lv_bipush (v := (-2)) hx hb dX6_fewest_50 (by decide) ?_
        obtain rfl := Option.some.inj h
        exact K _ _ _ _ dX6_fewest_52 hW
      · have h := it_f b36 h
        refine lv_iload hx hb dX6_fewest_39 (lv_at hl 5 rfl) ?_
        refine lv_iconst (v := (-1)) hx hb dX6_fewest_41 (by decide) ?_
        refine lv_bipush (v := 99) hx hb dX6_fewest_42 (by decide) ?_
        obtain ⟨r44, r44h, h⟩ := bd_some h
        refine x_backI hW (x_runS (As := [.int a3, .int ((-1 : Int32)), .int ((99 : Int32))]) (rest := []) C hW (c_X6_isIn l G (S := up S 0 8 ((0 : Int32))) r44h H.size) cs_RX6_134 hl.1 rfl rfl ⟨by decide, by decide⟩ (Nat.le_of_ble_eq_true rfl) ⟨Nat.zero_le _, Nat.zero_le _⟩ dX6_fewest_44) (fun H locs hW => ?_)
        refine z_if_ne (tgt := 53) hx hb dX6_fewest_47 (by decide) (fun b47 => ?_) (fun b47 => ?_)
        · have h := it_t b47 h
          refine lv_aload hx hb dX6_fewest_53 (lv_at hl 0 rfl) ?_
          refine lv_iload_n hx hb dX6_fewest_55 rfl (lv_at hl 3 rfl) ?_
          refine lv_iload_n hx hb dX6_fewest_56 rfl (lv_at hl 4 rfl) ?_
          refine lv_aload_n hx hb dX6_fewest_57 rfl (lv_at hl 1 rfl) ?_
          refine gf_RX6_14 C hW dX6_fewest_58 ?_
          refine gf_RX6_193 C hW dX6_fewest_61 ?_
          obtain ⟨r64, r64h, h⟩ := bd_some h
          refine x_backI hW (x_runV (As := [.int a1, .int a2, .int ((up S 0 8 ((0 : Int32))) 1 0)]) (rest := []) C hW (c_X4_faultOfCells l G r64h H.size) cv_RX6_152 (rv_X4 k20h) hl.1 rfl rfl ⟨by decide, by decide⟩ (Nat.le_of_ble_eq_true rfl) ⟨Nat.zero_le _, Nat.zero_le _⟩ dX6_fewest_64) (fun H locs hW => ?_)
          refine lv_istore (lv' := [(6, .int r64), (5, .ref (adr G k20)), (0, .ref (adr G 0)), (1, .int a0), (2, .int a1), (3, .int a2), (4, .int a3)]) hx hb dX6_fewest_67 hl (by decide) rfl (fun ls hl => ?_)
          refine lv_iload hx hb dX6_fewest_69 (lv_at hl 0 rfl) ?_
          refine lv_if_eq (tgt := 81) hx hb dX6_fewest_71 (by decide) (fun b71 => ?_) (fun b71 => ?_)
          · have h := it_t b71 h
            refine lv_iconst (v := 0) hx hb dX6_fewest_81 (by decide) ?_
            refine lv_istore (lv' := [(7, .int ((0 : Int32))), (6, .int r64), (5, .ref (adr G k20)), (0, .ref (adr G 0)), (1, .int a0), (2, .int a1), (3, .int a2), (4, .int a3)]) hx hb dX6_fewest_82 hl (by decide) rfl (fun ls hl => ?_)
            obtain ⟨u84, u84h, h⟩ := bd_some h
            refine l_i_X6_fewest_84 C k20h u84h ⟨?_, ?_⟩ _ _ _ hW (lv_sub hl [3, 6, 7, 2, 0] rfl)
            · intro q84 hu; subst hu; have h := sm_l h
              intro H locs ls hW hl
              refine lv_iload hx hb dX6_fewest_163 (lv_at hl 1 rfl) ?_
              refine lv_iconst (v := (-1)) hx hb dX6_fewest_165 (by decide) ?_
              refine lv_icmp_ne (tgt := 187) hx hb dX6_fewest_166 (by decide) (fun b166 => ?_) (fun b166 => ?_)
              · have h := it_f b166 h
                refine lv_aload_n hx hb dX6_fewest_187 rfl (lv_at hl 0 rfl) ?_
                refine gf_RX6_28 C hW dX6_fewest_188 ?_
                refine lv_aload_n hx hb dX6_fewest_191 rfl (lv_at hl 0 rfl) ?_
                refine gf_RX6_14 C hW dX6_fewest_192 ?_
                refine lv_aload_n hx hb dX6_fewest_195 rfl (lv_at hl 0 rfl) ?_
                refine gf_RX6_52 C hW dX6_fewest_196 ?_
                refine lv_iload hx hb dX6_fewest_199 (lv_at hl 1 rfl) ?_
                obtain ⟨r201, r201h, h⟩ := bd_some h
                refine x_backI hW (x_runV (As := [.ref (adr G 1), .ref (adr G 21), .int a3]) (rest := []) C hW (c_X2_placeInRow l G r201h H.size) cv_RX6_203 rv_X2 hl.1 rfl rfl ⟨by decide, by decide⟩ (Nat.le_of_ble_eq_true rfl) ⟨Nat.zero_le _, Nat.zero_le _⟩ dX6_fewest_201) (fun H locs hW => ?_)
                obtain rfl := Option.some.inj h
                exact K _ _ _ _ dX6_fewest_204 hW
              · have h := it_t b166 h
                refine lv_aload_n hx hb dX6_fewest_169 rfl (lv_at hl 0 rfl) ?_
                refine gf_RX6_28 C hW dX6_fewest_170 ?_
                refine lv_aload_n hx hb dX6_fewest_173 rfl (lv_at hl 0 rfl) ?_
                refine gf_RX6_14 C hW dX6_fewest_174 ?_
                refine lv_aload_n hx hb dX6_fewest_177 rfl (lv_at hl 0 rfl) ?_
                refine gf_RX6_52 C hW dX6_fewest_178 ?_
                obtain ⟨r181, r181h, h⟩ := bd_some h
                refine x_backI hW (x_runV (As := [.ref (adr G 1), .ref (adr G 21)]) (rest := []) C hW (c_X2_pressesFor l G r181h H.size) cv_RX6_199 rv_X2 hl.1 rfl rfl ⟨by decide, by decide⟩ (Nat.le_of_ble_eq_true rfl) ⟨Nat.zero_le _, Nat.zero_le _⟩ dX6_fewest_181) (fun H locs hW => ?_)
                refine lv_goto (tgt := 204) hx hb dX6_fewest_184 (by decide) ?_
                obtain rfl := Option.some.inj h
                exact K _ _ _ _ dX6_fewest_204 hW
            · intro w84 hu; subst hu; have h := sm_r h
              obtain rfl := Option.some.inj h
              exact K
          · have h := it_f b71 h
            refine lv_aload_n hx hb dX6_fewest_74 rfl (lv_at hl 2 rfl) ?_
            refine lv_iload hx hb dX6_fewest_75 (lv_at hl 0 rfl) ?_
            obtain ⟨r77, r77h, h⟩ := bd_some h
            refine x_backI hW (x_runV (As := [.int r64]) (rest := []) C hW (c_X6_faulted l G r77h H.size) cv_RX6_77 rv_X6 hl.1 rfl rfl ⟨by decide, by decide⟩ (Nat.le_of_ble_eq_true rfl) ⟨Nat.zero_le _, Nat.zero_le _⟩ dX6_fewest_77) (fun H locs hW => ?_)
            obtain rfl := Option.some.inj h
            exact K _ _ _ _ dX6_fewest_80 hW
        · have h := it_f b47 h
          refine lv_bipush (v := (-2)) hx hb dX6_fewest_50 (by decide) ?_
          obtain rfl := Option.some.inj h
          exact K _ _ _ _ dX6_fewest_52 hW
  · have h := it_f b12 h
    refine lv_bipush (v := (-3)) hx hb dX6_fewest_15 (by decide) ?_
    obtain rfl := Option.some.inj h
    exact K _ _ _ _ dX6_fewest_17 hW
set_option maxRecDepth 100000 in
theorem c_X6_fewest (l : Launch) (G : Geo) {S : St} {a0 : Int32} {a1 : Int32} {a2 : Int32} {a3 : Int32} {o : Int32 × St} (h : f_X6_fewest S a0 a1 a2 a3 = some o) : MI 37 eX G l yX6_fewest cX6_fewest 9 (some .int) 6 [.ref (adr G 0), .int a0, .int a1, .int a2, .int a3] S o.1 o.2 :=
  mI_of (by decide +kernel) (Nat.le_of_ble_eq_true rfl) (fun p e s m below meth c A H0 Q C K => w_f_X6_fewest C h K)
def i_X6_fitting_11 (S : St) (x1 : Nat) (x2 : Int32) (x4 : Int32) (x5 : Int32) (x6 : Int32) (x7 : Int32) : Option ((St × Int32 × Int32) ⊕ (St × Int32 × Int32)) :=
  if x4 < x7 then (some (.inr (S, x6, x7))) else (ck (okx x2 (lenX x1)) <| bd (f_X3_areSo (up S x1 (ix x2) x7)) fun r31 => if r31 = false then (some (.inl (up S x1 (ix x2) x7, x6, x7 + (1 : Int32)))) else (some (.inl (up S x1 (ix x2) x7, x6 ||| (shl32 ((1 : Int32)) x7), x7 + (1 : Int32)))))
set_option maxHeartbeats 4000000 in
set_option maxRecDepth 100000 in
theorem w_i_X6_fitting_11 {G : Geo} {p : Program} {l : Launch} {e : Env} {s : State} {m : MethodId} {args : Array Value} {below : List Frame} {meth : Method} {c : Code} {A : Nat → Prop} {H0 : Heap} {Q : State → Prop} (C : Cx G RX6 cX6_fitting 8 p s m args c) {S : St} {x1 : Nat} {x2 : Int32} {x4 : Int32} {x5 : Int32} {x6 : Int32} {x7 : Int32} {o : (St × Int32 × Int32) ⊕ (St × Int32 × Int32)} (hx1 : arX x1) (h : i_X6_fitting_11 S x1 x2 x4 x5 x6 x7 = some o) (Kn : ∀ q, o = .inl q → ∀ (H : Heap) (locs : List Loc) (ls : Array Slot), HX G A H0 q.1 H locs → lv_has ls 8 [(0, .ref (adr G 0)), (1, .ref (adr G x1)), (2, .int x2), (4, .int x4), (5, .int x5), (6, .int (q.2.1)), (7, .int (q.2.2))] → W p l e (rmK 4) s m args below meth c H locs 0 0 Q (F0 m 11 ls [])) (Kt : ∀ q, o = .inr q → ∀ (H : Heap) (locs : List Loc) (ls : Array Slot), HX G A H0 q.1 H locs → lv_has ls 8 [(1, .ref (adr G x1)), (2, .int x2), (5, .int x5), (6, .int (q.2.1))] → W p l e (rmK 4) s m args below meth c H locs 0 0 Q (F0 m 52 ls [])) : ∀ (H : Heap) (locs : List Loc) (ls : Array Slot), HX G A H0 S H locs → lv_has ls 8 [(0, .ref (adr G 0)), (1, .ref (adr G x1)), (2, .int x2), (4, .int x4), (5, .int x5), (6, .int x6), (7, .int x7)] → W p l e (rmK 4) s m args below meth c H locs 0 0 Q (F0 m 11 ls []) := by
  obtain ⟨hx, hb, -⟩ := id C
  intro H locs ls hW hl
  unfold i_X6_fitting_11 at h
  refine lv_iload hx hb dX6_fitting_11 (lv_at hl 6 rfl) ?_
  refine lv_iload hx hb dX6_fitting_13 (lv_at hl 3 rfl) ?_
  refine lv_icmp_gt (tgt := 52) hx hb dX6_fitting_15 (by decide) (fun b15 => ?_) (fun b15 => ?_)
  · have h := it_t b15 h
    obtain rfl := Option.some.inj h
    exact Kt _ rfl _ _ _ hW (lv_sub hl [1, 2, 4, 5] rfl)
  · have h := it_f b15 h
    refine lv_aload_n hx hb dX6_fitting_18 rfl (lv_at hl 1 rfl) ?_
    refine lv_iload_n hx hb dX6_fitting_19 rfl (lv_at hl 2 rfl) ?_
    refine lv_iload hx hb dX6_fitting_20 (lv_at hl 6 rfl) ?_
    obtain ⟨g22, h⟩ := ck_some h
    refine x_iast C hW (k := x1) (n := (lenX x1)) hx1.2 (eX_ar hx1) g22 dX6_fitting_22 (fun H locs hW => ?_)
    refine lv_aload_n hx hb dX6_fitting_23 rfl (lv_at hl 0 rfl) ?_
    refine gf_RX6_35 C hW dX6_fitting_24 ?_
    refine lv_aload_n hx hb dX6_fitting_27 rfl (lv_at hl 0 rfl) ?_
    refine gf_RX6_14 C hW dX6_fitting_28 ?_
    obtain ⟨r31, r31h, h⟩ := bd_some h
    refine x_backI hW (x_runV (As := [.ref (adr G 1)]) (rest := []) C hW (c_X3_areSo l G r31h H.size) cv_RX6_225 rv_X3 hl.1 rfl rfl ⟨by decide, by decide⟩ (Nat.le_of_ble_eq_true rfl) ⟨Nat.zero_le _, Nat.zero_le _⟩ dX6_fitting_31) (fun H locs hW => ?_)
    refine z_if_eq (tgt := 46) hx hb dX6_fitting_34 (by decide) (fun b34 => ?_) (fun b34 => ?_)
    · have h := it_t b34 h
      refine lv_iinc (v := (x7 + (1 : Int32))) (lv' := [(7, .int (x7 + (1 : Int32))), (0, .ref (adr G 0)), (1, .ref (adr G x1)), (2, .int x2), (4, .int x4), (5, .int x5), (6, .int x6)]) hx hb dX6_fitting_46 hl (k := 6) rfl rfl (by decide) rfl (fun ls hl => ?_)
      refine lv_goto (tgt := 11) hx hb dX6_fitting_49 (by decide) ?_
      obtain rfl := Option.some.inj h
      exact Kn _ rfl _ _ _ hW (lv_sub hl [1, 2, 3, 4, 5, 6, 0] rfl)
    · have h := it_f b34 h
      refine lv_iload hx hb dX6_fitting_37 (lv_at hl 5 rfl) ?_
      refine lv_iconst (v := 1) hx hb dX6_fitting_39 (by decide) ?_
      refine lv_iload hx hb dX6_fitting_40 (lv_at hl 6 rfl) ?_
      refine lv_ishl hx hb dX6_fitting_42 ?_
      refine lv_ior hx hb dX6_fitting_43 ?_
      refine lv_istore (lv' := [(6, .int (x6 ||| (shl32 ((1 : Int32)) x7))), (0, .ref (adr G 0)), (1, .ref (adr G x1)), (2, .int x2), (4, .int x4), (5, .int x5), (7, .int x7)]) hx hb dX6_fitting_44 hl (by decide) rfl (fun ls hl => ?_)
      refine lv_iinc (v := (x7 + (1 : Int32))) (lv' := [(7, .int (x7 + (1 : Int32))), (6, .int (x6 ||| (shl32 ((1 : Int32)) x7))), (0, .ref (adr G 0)), (1, .ref (adr G x1)), (2, .int x2), (4, .int x4), (5, .int x5)]) hx hb dX6_fitting_46 hl (k := 6) rfl rfl (by decide) rfl (fun ls hl => ?_)
      refine lv_goto (tgt := 11) hx hb dX6_fitting_49 (by decide) ?_
      obtain rfl := Option.some.inj h
      exact Kn _ rfl _ _ _ hW (lv_sub hl [2, 3, 4, 5, 6, 1, 0] rfl)
set_option maxHeartbeats 4000000 in
set_option maxRecDepth 100000 in
theorem l_i_X6_fitting_11 {G : Geo} {p : Program} {l : Launch} {e : Env} {s : State} {m : MethodId} {args : Array Value} {below : List Frame} {meth : Method} {c : Code} {A : Nat → Prop} {H0 : Heap} {Q : State → Prop} (C : Cx G RX6 cX6_fitting 8 p s m args c) {x1 : Nat} {x2 : Int32} {x4 : Int32} {x5 : Int32} {n : Nat} {q0 : St × Int32 × Int32} {u : St × Int32 × Int32} (hx1 : arX x1) (hq : iter (fun q : St × Int32 × Int32 => i_X6_fitting_11 q.1 x1 x2 x4 x5 q.2.1 q.2.2) n q0 = some u) (Kt : (fun q : St × Int32 × Int32 => ∀ (H : Heap) (locs : List Loc) (ls : Array Slot), HX G A H0 q.1 H locs → lv_has ls 8 [(1, .ref (adr G x1)), (2, .int x2), (5, .int x5), (6, .int (q.2.1))] → W p l e (rmK 4) s m args below meth c H locs 0 0 Q (F0 m 52 ls [])) u) : (fun q : St × Int32 × Int32 => ∀ (H : Heap) (locs : List Loc) (ls : Array Slot), HX G A H0 q.1 H locs → lv_has ls 8 [(0, .ref (adr G 0)), (1, .ref (adr G x1)), (2, .int x2), (4, .int x4), (5, .int x5), (6, .int (q.2.1)), (7, .int (q.2.2))] → W p l e (rmK 4) s m args below meth c H locs 0 0 Q (F0 m 11 ls [])) q0 :=
  iter_W (P := fun q : St × Int32 × Int32 => ∀ (H : Heap) (locs : List Loc) (ls : Array Slot), HX G A H0 q.1 H locs → lv_has ls 8 [(0, .ref (adr G 0)), (1, .ref (adr G x1)), (2, .int x2), (4, .int x4), (5, .int x5), (6, .int (q.2.1)), (7, .int (q.2.2))] → W p l e (rmK 4) s m args below meth c H locs 0 0 Q (F0 m 11 ls [])) (K := fun q : St × Int32 × Int32 => ∀ (H : Heap) (locs : List Loc) (ls : Array Slot), HX G A H0 q.1 H locs → lv_has ls 8 [(1, .ref (adr G x1)), (2, .int x2), (5, .int x5), (6, .int (q.2.1))] → W p l e (rmK 4) s m args below meth c H locs 0 0 Q (F0 m 52 ls [])) (fun q o hit Kn Kt => w_i_X6_fitting_11 C hx1 hit Kn Kt) n q0 u hq Kt
def f_X6_fitting (S : St) (a0 : Nat) (a1 : Int32) (a2 : Int32) (a3 : Int32) : Option (Int32 × St) :=
  ck (arX a0) <| ck (okx a1 (lenX a0)) <| bd (iter (fun q => i_X6_fitting_11 q.1 a0 a1 a3 (S a0 (ix a1)) q.2.1 q.2.2) BIG (S, (0 : Int32), a2)) fun q11 => ck (okx a1 (lenX a0)) <| some (q11.2.1, up q11.1 a0 (ix a1) (S a0 (ix a1)))
set_option maxHeartbeats 4000000 in
set_option maxRecDepth 100000 in
theorem w_f_X6_fitting {G : Geo} {p : Program} {l : Launch} {e : Env} {s : State} {m : MethodId} {args : Array Value} {below : List Frame} {meth : Method} {c : Code} {A : Nat → Prop} {H0 : Heap} {Q : State → Prop} (C : Cx G RX6 cX6_fitting 8 p s m args c) {S : St} {a0 : Nat} {a1 : Int32} {a2 : Int32} {a3 : Int32} {o : Int32 × St} (h : f_X6_fitting S a0 a1 a2 a3 = some o) (K : KI 37 eX G A H0 cX6_fitting p l e 4 s m args below meth c Q ((o).1) ((o).2)) : ∀ (H : Heap) (locs : List Loc) (ls : Array Slot), HX G A H0 S H locs → lv_has ls 8 [(0, .ref (adr G 0)), (1, .ref (adr G a0)), (2, .int a1), (3, .int a2), (4, .int a3)] → W p l e (rmK 4) s m args below meth c H locs 0 0 Q (F0 m 0 ls []) := by
  obtain ⟨hx, hb, -⟩ := id C
  intro H locs ls hW hl
  unfold f_X6_fitting at h
  obtain ⟨ha0, h⟩ := ck_some h
  refine lv_aload_n hx hb dX6_fitting_0 rfl (lv_at hl 1 rfl) ?_
  refine lv_iload_n hx hb dX6_fitting_1 rfl (lv_at hl 2 rfl) ?_
  obtain ⟨g2, h⟩ := ck_some h
  refine x_iald C hW (k := a0) (n := (lenX a0)) ha0.2 (eX_ar ha0) g2 dX6_fitting_2 ?_
  refine lv_istore (lv' := [(5, .int (S a0 (ix a1))), (0, .ref (adr G 0)), (1, .ref (adr G a0)), (2, .int a1), (3, .int a2), (4, .int a3)]) hx hb dX6_fitting_3 hl (by decide) rfl (fun ls hl => ?_)
  refine lv_iconst (v := 0) hx hb dX6_fitting_5 (by decide) ?_
  refine lv_istore (lv' := [(6, .int ((0 : Int32))), (5, .int (S a0 (ix a1))), (0, .ref (adr G 0)), (1, .ref (adr G a0)), (2, .int a1), (3, .int a2), (4, .int a3)]) hx hb dX6_fitting_6 hl (by decide) rfl (fun ls hl => ?_)
  refine lv_iload_n hx hb dX6_fitting_8 rfl (lv_at hl 5 rfl) ?_
  refine lv_istore (lv' := [(7, .int a2), (6, .int ((0 : Int32))), (5, .int (S a0 (ix a1))), (0, .ref (adr G 0)), (1, .ref (adr G a0)), (2, .int a1), (3, .int a2), (4, .int a3)]) hx hb dX6_fitting_9 hl (by decide) rfl (fun ls hl => ?_)
  obtain ⟨q11, q11h, h⟩ := bd_some h
  refine l_i_X6_fitting_11 C ha0 q11h ?_ _ _ _ hW (lv_sub hl [3, 4, 5, 7, 2, 1, 0] rfl)
  intro H locs ls hW hl
  refine lv_aload_n hx hb dX6_fitting_52 rfl (lv_at hl 0 rfl) ?_
  refine lv_iload_n hx hb dX6_fitting_53 rfl (lv_at hl 1 rfl) ?_
  refine lv_iload hx hb dX6_fitting_54 (lv_at hl 2 rfl) ?_
  obtain ⟨g56, h⟩ := ck_some h
  refine x_iast C hW (k := a0) (n := (lenX a0)) ha0.2 (eX_ar ha0) g56 dX6_fitting_56 (fun H locs hW => ?_)
  refine lv_iload hx hb dX6_fitting_57 (lv_at hl 3 rfl) ?_
  obtain rfl := Option.some.inj h
  exact K _ _ _ _ dX6_fitting_59 hW
set_option maxRecDepth 100000 in
theorem c_X6_fitting (l : Launch) (G : Geo) {S : St} {a0 : Nat} {a1 : Int32} {a2 : Int32} {a3 : Int32} {o : Int32 × St} (h : f_X6_fitting S a0 a1 a2 a3 = some o) : MI 37 eX G l yX6_fitting cX6_fitting 8 (some .int) 4 [.ref (adr G 0), .ref (adr G a0), .int a1, .int a2, .int a3] S o.1 o.2 :=
  mI_of (by decide +kernel) (Nat.le_of_ble_eq_true rfl) (fun p e s m below meth c A H0 Q C K => w_f_X6_fitting C h K)
def j_X6_hall_69 (S : St) (x3 : Int32) (x4 : Int32) (x5 : Nat) (x6 : Int32) : Option (Int32 × St) :=
  if x6 = 0 then (bd (f_X5_take S x5 x3 x4) fun r90 => bd (f_X5_firstFault r90) fun r97 => if r97.1 = ((-9 : Int32)) then (bd (f_X5_layOut r97.2) fun r123 => bd (f_X2_forget (up r123 4 0 ((0 : Int32)))) fun r138 => some (r138 1 3, r138)) else (some (((-100 : Int32)) - r97.1, r97.2))) else (bd (f_X6_faulted S x6) fun r77 => some (r77.1, r77.2))
set_option maxHeartbeats 4000000 in
set_option maxRecDepth 100000 in
theorem w_j_X6_hall_69 {G : Geo} {p : Program} {l : Launch} {e : Env} {s : State} {m : MethodId} {args : Array Value} {below : List Frame} {meth : Method} {c : Code} {A : Nat → Prop} {H0 : Heap} {Q : State → Prop} (C : Cx G RX6 cX6_hall 8 p s m args c) {S : St} {x3 : Int32} {x4 : Int32} {x5 : Nat} {x6 : Int32} {o : Int32 × St} (hx5 : shX x5) (h : j_X6_hall_69 S x3 x4 x5 x6 = some o) (K : KI 37 eX G A H0 cX6_hall p l e 4 s m args below meth c Q ((o).1) ((o).2)) : ∀ (H : Heap) (locs : List Loc) (ls : Array Slot), HX G A H0 S H locs → lv_has ls 8 [(0, .ref (adr G 0)), (3, .int x3), (4, .int x4), (5, .ref (adr G x5)), (6, .int x6)] → W p l e (rmK 4) s m args below meth c H locs 0 0 Q (F0 m 69 ls []) := by
  obtain ⟨hx, hb, -⟩ := id C
  intro H locs ls hW hl
  unfold j_X6_hall_69 at h
  refine lv_iload hx hb dX6_hall_69 (lv_at hl 4 rfl) ?_
  refine lv_if_eq (tgt := 81) hx hb dX6_hall_71 (by decide) (fun b71 => ?_) (fun b71 => ?_)
  · have h := it_t b71 h
    refine lv_aload_n hx hb dX6_hall_81 rfl (lv_at hl 0 rfl) ?_
    refine gf_RX6_21 C hW dX6_hall_82 ?_
    refine lv_aload hx hb dX6_hall_85 (lv_at hl 3 rfl) ?_
    refine lv_iload_n hx hb dX6_hall_87 rfl (lv_at hl 1 rfl) ?_
    refine lv_iload hx hb dX6_hall_88 (lv_at hl 2 rfl) ?_
    obtain ⟨r90, r90h, h⟩ := bd_some h
    refine x_backV hW (x_runV (As := [.ref (adr G x5), .int x3, .int x4]) (rest := []) C hW (c_X5_take l G r90h H.size) cv_RX6_80 rv_X5 hl.1 rfl rfl ⟨by decide, by decide⟩ (Nat.le_of_ble_eq_true rfl) ⟨Nat.zero_le _, Nat.zero_le _⟩ dX6_hall_90) (fun H locs hW => ?_)
    refine lv_aload_n hx hb dX6_hall_93 rfl (lv_at hl 0 rfl) ?_
    refine gf_RX6_21 C hW dX6_hall_94 ?_
    obtain ⟨r97, r97h, h⟩ := bd_some h
    refine x_backI hW (x_runV (As := []) (rest := []) C hW (c_X5_firstFault l G r97h H.size) cv_RX6_84 rv_X5 hl.1 rfl rfl ⟨by decide, by decide⟩ (Nat.le_of_ble_eq_true rfl) ⟨Nat.zero_le _, Nat.zero_le _⟩ dX6_hall_97) (fun H locs hW => ?_)
    refine lv_istore (lv' := [(7, .int (r97.1)), (0, .ref (adr G 0)), (3, .int x3), (4, .int x4), (5, .ref (adr G x5)), (6, .int x6)]) hx hb dX6_hall_100 hl (by decide) rfl (fun ls hl => ?_)
    refine lv_iload hx hb dX6_hall_102 (lv_at hl 0 rfl) ?_
    refine lv_bipush (v := (-9)) hx hb dX6_hall_104 (by decide) ?_
    refine lv_icmp_eq (tgt := 115) hx hb dX6_hall_106 (by decide) (fun b106 => ?_) (fun b106 => ?_)
    · have h := it_t b106 h
      refine lv_aload_n hx hb dX6_hall_115 rfl (lv_at hl 1 rfl) ?_
      refine gf_RX6_21 C hW dX6_hall_116 ?_
      refine lv_aload_n hx hb dX6_hall_119 rfl (lv_at hl 1 rfl) ?_
      refine gf_RX6_14 C hW dX6_hall_120 ?_
      obtain ⟨r123, r123h, h⟩ := bd_some h
      refine x_backV hW (x_runV (As := [.ref (adr G 1)]) (rest := []) C hW (c_X5_layOut l G r123h H.size) cv_RX6_88 rv_X5 hl.1 rfl rfl ⟨by decide, by decide⟩ (Nat.le_of_ble_eq_true rfl) ⟨Nat.zero_le _, Nat.zero_le _⟩ dX6_hall_123) (fun H locs hW => ?_)
      refine lv_aload_n hx hb dX6_hall_126 rfl (lv_at hl 1 rfl) ?_
      refine gf_RX6_35 C hW dX6_hall_127 ?_
      refine lv_iconst (v := 0) hx hb dX6_hall_130 (by decide) ?_
      refine pf_RX6_92 C hW dX6_hall_131 (fun H locs hW => ?_)
      refine lv_aload_n hx hb dX6_hall_134 rfl (lv_at hl 1 rfl) ?_
      refine gf_RX6_28 C hW dX6_hall_135 ?_
      obtain ⟨r138, r138h, h⟩ := bd_some h
      refine x_backV hW (x_runV (As := []) (rest := []) C hW (c_X2_forget l G r138h H.size) cv_RX6_95 rv_X2 hl.1 rfl rfl ⟨by decide, by decide⟩ (Nat.le_of_ble_eq_true rfl) ⟨Nat.zero_le _, Nat.zero_le _⟩ dX6_hall_138) (fun H locs hW => ?_)
      refine lv_aload_n hx hb dX6_hall_141 rfl (lv_at hl 1 rfl) ?_
      refine gf_RX6_14 C hW dX6_hall_142 ?_
      refine gf_RX6_98 C hW dX6_hall_145 ?_
      obtain rfl := Option.some.inj h
      exact K _ _ _ _ dX6_hall_148 hW
    · have h := it_f b106 h
      refine lv_bipush (v := (-100)) hx hb dX6_hall_109 (by decide) ?_
      refine lv_iload hx hb dX6_hall_111 (lv_at hl 0 rfl) ?_
      refine lv_isub hx hb dX6_hall_113 ?_
      obtain rfl := Option.some.inj h
      exact K _ _ _ _ dX6_hall_114 hW
  · have h := it_f b71 h
    refine lv_aload_n hx hb dX6_hall_74 rfl (lv_at hl 0 rfl) ?_
    refine lv_iload hx hb dX6_hall_75 (lv_at hl 4 rfl) ?_
    obtain ⟨r77, r77h, h⟩ := bd_some h
    refine x_backI hW (x_runV (As := [.int x6]) (rest := []) C hW (c_X6_faulted l G r77h H.size) cv_RX6_77 rv_X6 hl.1 rfl rfl ⟨by decide, by decide⟩ (Nat.le_of_ble_eq_true rfl) ⟨Nat.zero_le _, Nat.zero_le _⟩ dX6_hall_77) (fun H locs hW => ?_)
    obtain rfl := Option.some.inj h
    exact K _ _ _ _ dX6_hall_80 hW
def j_X6_hall_50 (S : St) (x3 : Int32) (x4 : Int32) (x5 : Nat) (x6 : Int32) : Option (Int32 × St) :=
  if x6 = 0 then (bd (f_X4_hasCells S x5 x3 x4) fun r60 => if r60 = true then (j_X6_hall_69 S x3 x4 x5 x6) else (j_X6_hall_69 S x3 x4 x5 ((3 : Int32)))) else (j_X6_hall_69 S x3 x4 x5 x6)
set_option maxHeartbeats 4000000 in
set_option maxRecDepth 100000 in
theorem w_j_X6_hall_50 {G : Geo} {p : Program} {l : Launch} {e : Env} {s : State} {m : MethodId} {args : Array Value} {below : List Frame} {meth : Method} {c : Code} {A : Nat → Prop} {H0 : Heap} {Q : State → Prop} (C : Cx G RX6 cX6_hall 8 p s m args c) {S : St} {x3 : Int32} {x4 : Int32} {x5 : Nat} {x6 : Int32} {o : Int32 × St} (hx5 : shX x5) (h : j_X6_hall_50 S x3 x4 x5 x6 = some o) (K : KI 37 eX G A H0 cX6_hall p l e 4 s m args below meth c Q ((o).1) ((o).2)) : ∀ (H : Heap) (locs : List Loc) (ls : Array Slot), HX G A H0 S H locs → lv_has ls 8 [(0, .ref (adr G 0)), (3, .int x3), (4, .int x4), (5, .ref (adr G x5)), (6, .int x6)] → W p l e (rmK 4) s m args below meth c H locs 0 0 Q (F0 m 50 ls []) := by
  obtain ⟨hx, hb, -⟩ := id C
  intro H locs ls hW hl
  unfold j_X6_hall_50 at h
  refine lv_iload hx hb dX6_hall_50 (lv_at hl 4 rfl) ?_
  refine lv_if_ne (tgt := 69) hx hb dX6_hall_52 (by decide) (fun b52 => ?_) (fun b52 => ?_)
  · have h := it_f b52 h
    exact w_j_X6_hall_69 C hx5 h K _ _ _ hW (lv_sub hl [0, 1, 2, 3, 4] rfl)
  · have h := it_t b52 h
    refine lv_aload hx hb dX6_hall_55 (lv_at hl 3 rfl) ?_
    refine lv_iload_n hx hb dX6_hall_57 rfl (lv_at hl 1 rfl) ?_
    refine lv_iload hx hb dX6_hall_58 (lv_at hl 2 rfl) ?_
    obtain ⟨r60, r60h, h⟩ := bd_some h
    refine x_backI hW (x_runV (As := [.int x3, .int x4]) (rest := []) C hW (c_X4_hasCells l G r60h H.size) cv_RX6_73 (rv_X4 hx5) hl.1 rfl rfl ⟨by decide, by decide⟩ (Nat.le_of_ble_eq_true rfl) ⟨Nat.zero_le _, Nat.zero_le _⟩ dX6_hall_60) (fun H locs hW => ?_)
    refine z_if_ne (tgt := 69) hx hb dX6_hall_63 (by decide) (fun b63 => ?_) (fun b63 => ?_)
    · have h := it_t b63 h
      exact w_j_X6_hall_69 C hx5 h K _ _ _ hW (lv_sub hl [0, 1, 2, 3, 4] rfl)
    · have h := it_f b63 h
      refine lv_iconst (v := 3) hx hb dX6_hall_66 (by decide) ?_
      refine lv_istore (lv' := [(6, .int ((3 : Int32))), (0, .ref (adr G 0)), (3, .int x3), (4, .int x4), (5, .ref (adr G x5))]) hx hb dX6_hall_67 hl (by decide) rfl (fun ls hl => ?_)
      exact w_j_X6_hall_69 C hx5 h K _ _ _ hW (lv_sub hl [1, 2, 3, 4, 0] rfl)
def f_X6_hall (S : St) (a0 : Int32) (a1 : Int32) (a2 : Int32) (a3 : Int32) : Option (Int32 × St) :=
  bd (f_X6_sheetAt (up S 0 8 ((0 : Int32))) a0) fun r7 => op r7 (some ((-1 : Int32), up S 0 8 ((0 : Int32)))) fun k7 => ck (shX k7) <| bd (f_X6_isLane a1) fun r20 => if r20 = true then (bd (f_X4_faultAs (up S 0 8 ((0 : Int32))) k7 a1) fun r32 => if r32 = 0 then (if 0 ≤ a3 then (j_X6_hall_50 (up S 0 8 ((0 : Int32))) a2 a3 k7 r32) else (j_X6_hall_50 (up S 0 8 ((0 : Int32))) a2 a3 k7 ((4 : Int32)))) else (j_X6_hall_50 (up S 0 8 ((0 : Int32))) a2 a3 k7 r32)) else (some ((-2 : Int32), up S 0 8 ((0 : Int32))))
set_option maxHeartbeats 4000000 in
set_option maxRecDepth 100000 in
theorem w_f_X6_hall {G : Geo} {p : Program} {l : Launch} {e : Env} {s : State} {m : MethodId} {args : Array Value} {below : List Frame} {meth : Method} {c : Code} {A : Nat → Prop} {H0 : Heap} {Q : State → Prop} (C : Cx G RX6 cX6_hall 8 p s m args c) {S : St} {a0 : Int32} {a1 : Int32} {a2 : Int32} {a3 : Int32} {o : Int32 × St} (h : f_X6_hall S a0 a1 a2 a3 = some o) (K : KI 37 eX G A H0 cX6_hall p l e 4 s m args below meth c Q ((o).1) ((o).2)) : ∀ (H : Heap) (locs : List Loc) (ls : Array Slot), HX G A H0 S H locs → lv_has ls 8 [(0, .ref (adr G 0)), (1, .int a0), (2, .int a1), (3, .int a2), (4, .int a3)] → W p l e (rmK 4) s m args below meth c H locs 0 0 Q (F0 m 0 ls []) := by
  obtain ⟨hx, hb, -⟩ := id C
  intro H locs ls hW hl
  unfold f_X6_hall at h
  refine lv_aload_n hx hb dX6_hall_0 rfl (lv_at hl 0 rfl) ?_
  refine lv_iconst (v := 0) hx hb dX6_hall_1 (by decide) ?_
  refine pf_RX6_57 C hW dX6_hall_2 (fun H locs hW => ?_)
  refine lv_aload_n hx hb dX6_hall_5 rfl (lv_at hl 0 rfl) ?_
  refine lv_iload_n hx hb dX6_hall_6 rfl (lv_at hl 1 rfl) ?_
  obtain ⟨r7, r7h, h⟩ := bd_some h
  refine x_backE hW (x_runV (As := [.int a0]) (rest := []) C hW (c_X6_sheetAt l G r7h H.size) cv_RX6_61 rv_X6 hl.1 rfl rfl ⟨by decide, by decide⟩ (Nat.le_of_ble_eq_true rfl) ⟨Nat.zero_le _, Nat.zero_le _⟩ dX6_hall_7) (fun H locs hW => ?_)
  cases r7 with
  | none =>
    have h := op_n h
    refine lv_astoreN (lv' := [(5, .null), (0, .ref (adr G 0)), (1, .int a0), (2, .int a1), (3, .int a2), (4, .int a3)]) hx hb dX6_hall_10 hl (by decide) rfl (fun ls hl => ?_)
    refine lv_aloadN hx hb dX6_hall_12 (lv_at hl 0 rfl) ?_
    refine lv_ifnonnullN hx hb dX6_hall_14 ?_
    refine lv_iconst (v := (-1)) hx hb dX6_hall_17 (by decide) ?_
    obtain rfl := Option.some.inj h
    exact K _ _ _ _ dX6_hall_18 hW
  | some k7 =>
    have h := op_sm h
    obtain ⟨k7h, h⟩ := ck_some h
    refine lv_astore (lv' := [(5, .ref (adr G k7)), (0, .ref (adr G 0)), (1, .int a0), (2, .int a1), (3, .int a2), (4, .int a3)]) hx hb dX6_hall_10 hl (by decide) rfl (fun ls hl => ?_)
    refine lv_aload hx hb dX6_hall_12 (lv_at hl 0 rfl) ?_
    refine lv_ifnonnull (tgt := 19) hx hb dX6_hall_14 (by decide) ?_
    refine lv_iload_n hx hb dX6_hall_19 rfl (lv_at hl 3 rfl) ?_
    obtain ⟨r20, r20h, h⟩ := bd_some h
    refine x_backI hW (x_runS (As := [.int a1]) (rest := []) C hW (c_X6_isLane l G (S := up S 0 8 ((0 : Int32))) r20h H.size) cs_RX6_65 hl.1 rfl rfl ⟨by decide, by decide⟩ (Nat.le_of_ble_eq_true rfl) ⟨Nat.zero_le _, Nat.zero_le _⟩ dX6_hall_20) (fun H locs hW => ?_)
    refine z_if_ne (tgt := 29) hx hb dX6_hall_23 (by decide) (fun b23 => ?_) (fun b23 => ?_)
    · have h := it_t b23 h
      refine lv_aload hx hb dX6_hall_29 (lv_at hl 0 rfl) ?_
      refine lv_iload_n hx hb dX6_hall_31 rfl (lv_at hl 3 rfl) ?_
      obtain ⟨r32, r32h, h⟩ := bd_some h
      refine x_backI hW (x_runV (As := [.int a1]) (rest := []) C hW (c_X4_faultAs l G r32h H.size) cv_RX6_69 (rv_X4 k7h) hl.1 rfl rfl ⟨by decide, by decide⟩ (Nat.le_of_ble_eq_true rfl) ⟨Nat.zero_le _, Nat.zero_le _⟩ dX6_hall_32) (fun H locs hW => ?_)
      refine lv_istore (lv' := [(6, .int r32), (5, .ref (adr G k7)), (0, .ref (adr G 0)), (1, .int a0), (2, .int a1), (3, .int a2), (4, .int a3)]) hx hb dX6_hall_35 hl (by decide) rfl (fun ls hl => ?_)
      refine lv_iload hx hb dX6_hall_37 (lv_at hl 0 rfl) ?_
      refine lv_if_ne (tgt := 50) hx hb dX6_hall_39 (by decide) (fun b39 => ?_) (fun b39 => ?_)
      · have h := it_f b39 h
        exact w_j_X6_hall_50 C k7h h K _ _ _ hW (lv_sub hl [2, 5, 6, 1, 0] rfl)
      · have h := it_t b39 h
        refine lv_iload hx hb dX6_hall_42 (lv_at hl 6 rfl) ?_
        refine lv_if_ge (tgt := 50) hx hb dX6_hall_44 (by decide) (fun b44 => ?_) (fun b44 => ?_)
        · have h := it_t b44 h
          exact w_j_X6_hall_50 C k7h h K _ _ _ hW (lv_sub hl [2, 5, 6, 1, 0] rfl)
        · have h := it_f b44 h
          refine lv_iconst (v := 4) hx hb dX6_hall_47 (by decide) ?_
          refine lv_istore (lv' := [(6, .int ((4 : Int32))), (5, .ref (adr G k7)), (0, .ref (adr G 0)), (1, .int a0), (2, .int a1), (3, .int a2), (4, .int a3)]) hx hb dX6_hall_48 hl (by decide) rfl (fun ls hl => ?_)
          exact w_j_X6_hall_50 C k7h h K _ _ _ hW (lv_sub hl [2, 5, 6, 1, 0] rfl)
    · have h := it_f b23 h
      refine lv_bipush (v := (-2)) hx hb dX6_hall_26 (by decide) ?_
      obtain rfl := Option.some.inj h
      exact K _ _ _ _ dX6_hall_28 hW
set_option maxRecDepth 100000 in
theorem c_X6_hall (l : Launch) (G : Geo) {S : St} {a0 : Int32} {a1 : Int32} {a2 : Int32} {a3 : Int32} {o : Int32 × St} (h : f_X6_hall S a0 a1 a2 a3 = some o) : MI 37 eX G l yX6_hall cX6_hall 8 (some .int) 4 [.ref (adr G 0), .int a0, .int a1, .int a2, .int a3] S o.1 o.2 :=
  mI_of (by decide +kernel) (Nat.le_of_ble_eq_true rfl) (fun p e s m below meth c A H0 Q C K => w_f_X6_hall C h K)
def f_X6_halls (S : St) : Option (Int32 × St) :=
  bd (f_X1_isMissing S) fun r4 => if r4 = false then (bd (f_X1_allSwitches S) fun r27 => bd (f_X2_manyBy S r27) fun r30 => some (r30.1, r30.2)) else (some ((-3 : Int32), S))
set_option maxHeartbeats 4000000 in
set_option maxRecDepth 100000 in
theorem w_f_X6_halls {G : Geo} {p : Program} {l : Launch} {e : Env} {s : State} {m : MethodId} {args : Array Value} {below : List Frame} {meth : Method} {c : Code} {A : Nat → Prop} {H0 : Heap} {Q : State → Prop} (C : Cx G RX6 cX6_halls 1 p s m args c) {S : St}  {o : Int32 × St} (h : f_X6_halls S = some o) (K : KI 37 eX G A H0 cX6_halls p l e 6 s m args below meth c Q ((o).1) ((o).2)) : ∀ (H : Heap) (locs : List Loc) (ls : Array Slot), HX G A H0 S H locs → lv_has ls 1 [(0, .ref (adr G 0))] → W p l e (rmK 6) s m args below meth c H locs 0 0 Q (F0 m 0 ls []) := by
  obtain ⟨hx, hb, -⟩ := id C
  intro H locs ls hW hl
  unfold f_X6_halls at h
  refine lv_aload_n hx hb dX6_halls_0 rfl (lv_at hl 0 rfl) ?_
  refine gf_RX6_14 C hW dX6_halls_1 ?_
  obtain ⟨r4, r4h, h⟩ := bd_some h
  refine x_backI hW (x_runV (As := []) (rest := []) C hW (c_X1_isMissing l G r4h H.size) cv_RX6_156 rv_X1 hl.1 rfl rfl ⟨by decide, by decide⟩ (Nat.le_of_ble_eq_true rfl) ⟨Nat.zero_le _, Nat.zero_le _⟩ dX6_halls_4) (fun H locs hW => ?_)
  refine z_if_eq (tgt := 15) hx hb dX6_halls_7 (by decide) (fun b7 => ?_) (fun b7 => ?_)
  · have h := it_t b7 h
    refine lv_aload_n hx hb dX6_halls_15 rfl (lv_at hl 0 rfl) ?_
    refine gf_RX6_28 C hW dX6_halls_16 ?_
    refine lv_aload_n hx hb dX6_halls_19 rfl (lv_at hl 0 rfl) ?_
    refine gf_RX6_14 C hW dX6_halls_20 ?_
    refine lv_aload_n hx hb dX6_halls_23 rfl (lv_at hl 0 rfl) ?_
    refine gf_RX6_14 C hW dX6_halls_24 ?_
    obtain ⟨r27, r27h, h⟩ := bd_some h
    refine x_backI hW (x_runV (As := []) (rest := [.ref (adr G 1), .ref (adr G 3)]) C hW (c_X1_allSwitches l G r27h H.size) cv_RX6_207 rv_X1 hl.1 rfl rfl ⟨by decide, by decide⟩ (Nat.le_of_ble_eq_true rfl) ⟨Nat.zero_le _, Nat.zero_le _⟩ dX6_halls_27) (fun H locs hW => ?_)
    obtain ⟨r30, r30h, h⟩ := bd_some h
    refine x_backI hW (x_runV (As := [.ref (adr G 1), .int r27]) (rest := []) C hW (c_X2_manyBy l G r30h H.size) cv_RX6_210 rv_X2 hl.1 rfl rfl ⟨by decide, by decide⟩ (Nat.le_of_ble_eq_true rfl) ⟨Nat.zero_le _, Nat.zero_le _⟩ dX6_halls_30) (fun H locs hW => ?_)
    obtain rfl := Option.some.inj h
    exact K _ _ _ _ dX6_halls_33 hW
  · have h := it_f b7 h
    refine lv_bipush (v := (-3)) hx hb dX6_halls_10 (by decide) ?_
    refine lv_goto (tgt := 33) hx hb dX6_halls_12 (by decide) ?_
    obtain rfl := Option.some.inj h
    exact K _ _ _ _ dX6_halls_33 hW
set_option maxRecDepth 100000 in
theorem c_X6_halls (l : Launch) (G : Geo) {S : St}  {o : Int32 × St} (h : f_X6_halls S = some o) : MI 37 eX G l yX6_halls cX6_halls 1 (some .int) 6 [.ref (adr G 0)] S o.1 o.2 :=
  mI_of (by decide +kernel) (Nat.le_of_ble_eq_true rfl) (fun p e s m below meth c A H0 Q C K => w_f_X6_halls C h K)
def f_X6_idle (S : St) : Option (Int32 × St) :=
  bd (f_X1_isMissing S) fun r4 => if r4 = false then (bd (f_X2_pressesForNothing S) fun r23 => some (r23.1, r23.2)) else (some ((-3 : Int32), S))
set_option maxHeartbeats 4000000 in
set_option maxRecDepth 100000 in
theorem w_f_X6_idle {G : Geo} {p : Program} {l : Launch} {e : Env} {s : State} {m : MethodId} {args : Array Value} {below : List Frame} {meth : Method} {c : Code} {A : Nat → Prop} {H0 : Heap} {Q : State → Prop} (C : Cx G RX6 cX6_idle 1 p s m args c) {S : St}  {o : Int32 × St} (h : f_X6_idle S = some o) (K : KI 37 eX G A H0 cX6_idle p l e 6 s m args below meth c Q ((o).1) ((o).2)) : ∀ (H : Heap) (locs : List Loc) (ls : Array Slot), HX G A H0 S H locs → lv_has ls 1 [(0, .ref (adr G 0))] → W p l e (rmK 6) s m args below meth c H locs 0 0 Q (F0 m 0 ls []) := by
  obtain ⟨hx, hb, -⟩ := id C
  intro H locs ls hW hl
  unfold f_X6_idle at h
  refine lv_aload_n hx hb dX6_idle_0 rfl (lv_at hl 0 rfl) ?_
  refine gf_RX6_14 C hW dX6_idle_1 ?_
  obtain ⟨r4, r4h, h⟩ := bd_some h
  refine x_backI hW (x_runV (As := []) (rest := []) C hW (c_X1_isMissing l G r4h H.size) cv_RX6_156 rv_X1 hl.1 rfl rfl ⟨by decide, by decide⟩ (Nat.le_of_ble_eq_true rfl) ⟨Nat.zero_le _, Nat.zero_le _⟩ dX6_idle_4) (fun H locs hW => ?_)
  refine z_if_eq (tgt := 15) hx hb dX6_idle_7 (by decide) (fun b7 => ?_) (fun b7 => ?_)
  · have h := it_t b7 h
    refine lv_aload_n hx hb dX6_idle_15 rfl (lv_at hl 0 rfl) ?_
    refine gf_RX6_28 C hW dX6_idle_16 ?_
    refine lv_aload_n hx hb dX6_idle_19 rfl (lv_at hl 0 rfl) ?_
    refine gf_RX6_14 C hW dX6_idle_20 ?_
    obtain ⟨r23, r23h, h⟩ := bd_some h
    refine x_backI hW (x_runV (As := [.ref (adr G 1)]) (rest := []) C hW (c_X2_pressesForNothing l G r23h H.size) cv_RX6_214 rv_X2 hl.1 rfl rfl ⟨by decide, by decide⟩ (Nat.le_of_ble_eq_true rfl) ⟨Nat.zero_le _, Nat.zero_le _⟩ dX6_idle_23) (fun H locs hW => ?_)
    obtain rfl := Option.some.inj h
    exact K _ _ _ _ dX6_idle_26 hW
  · have h := it_f b7 h
    refine lv_bipush (v := (-3)) hx hb dX6_idle_10 (by decide) ?_
    refine lv_goto (tgt := 26) hx hb dX6_idle_12 (by decide) ?_
    obtain rfl := Option.some.inj h
    exact K _ _ _ _ dX6_idle_26 hW
set_option maxRecDepth 100000 in
theorem c_X6_idle (l : Launch) (G : Geo) {S : St}  {o : Int32 × St} (h : f_X6_idle S = some o) : MI 37 eX G l yX6_idle cX6_idle 1 (some .int) 6 [.ref (adr G 0)] S o.1 o.2 :=
  mI_of (by decide +kernel) (Nat.le_of_ble_eq_true rfl) (fun p e s m below meth c A H0 Q C K => w_f_X6_idle C h K)
def f_X6_kinds (S : St) (a0 : Int32) : Option (Int32 × St) :=
  bd (f_X1_hasSwitch S a0) fun r5 => if r5 = false then (some ((-1 : Int32), S)) else (bd (f_X6_fitting S 24 a0 ((0 : Int32)) ((2 : Int32))) fun r22 => some (r22.1, r22.2))
set_option maxHeartbeats 4000000 in
set_option maxRecDepth 100000 in
theorem w_f_X6_kinds {G : Geo} {p : Program} {l : Launch} {e : Env} {s : State} {m : MethodId} {args : Array Value} {below : List Frame} {meth : Method} {c : Code} {A : Nat → Prop} {H0 : Heap} {Q : State → Prop} (C : Cx G RX6 cX6_kinds 2 p s m args c) {S : St} {a0 : Int32} {o : Int32 × St} (h : f_X6_kinds S a0 = some o) (K : KI 37 eX G A H0 cX6_kinds p l e 5 s m args below meth c Q ((o).1) ((o).2)) : ∀ (H : Heap) (locs : List Loc) (ls : Array Slot), HX G A H0 S H locs → lv_has ls 2 [(0, .ref (adr G 0)), (1, .int a0)] → W p l e (rmK 5) s m args below meth c H locs 0 0 Q (F0 m 0 ls []) := by
  obtain ⟨hx, hb, -⟩ := id C
  intro H locs ls hW hl
  unfold f_X6_kinds at h
  refine lv_aload_n hx hb dX6_kinds_0 rfl (lv_at hl 0 rfl) ?_
  refine gf_RX6_14 C hW dX6_kinds_1 ?_
  refine lv_iload_n hx hb dX6_kinds_4 rfl (lv_at hl 1 rfl) ?_
  obtain ⟨r5, r5h, h⟩ := bd_some h
  refine x_backI hW (x_runV (As := [.int a0]) (rest := []) C hW (c_X1_hasSwitch l G r5h H.size) cv_RX6_113 rv_X1 hl.1 rfl rfl ⟨by decide, by decide⟩ (Nat.le_of_ble_eq_true rfl) ⟨Nat.zero_le _, Nat.zero_le _⟩ dX6_kinds_5) (fun H locs hW => ?_)
  refine z_if_eq (tgt := 28) hx hb dX6_kinds_8 (by decide) (fun b8 => ?_) (fun b8 => ?_)
  · have h := it_t b8 h
    refine lv_iconst (v := (-1)) hx hb dX6_kinds_28 (by decide) ?_
    obtain rfl := Option.some.inj h
    exact K _ _ _ _ dX6_kinds_29 hW
  · have h := it_f b8 h
    refine lv_aload_n hx hb dX6_kinds_11 rfl (lv_at hl 0 rfl) ?_
    refine lv_aload_n hx hb dX6_kinds_12 rfl (lv_at hl 0 rfl) ?_
    refine gf_RX6_14 C hW dX6_kinds_13 ?_
    refine gf_RX6_116 C hW dX6_kinds_16 ?_
    refine lv_iload_n hx hb dX6_kinds_19 rfl (lv_at hl 1 rfl) ?_
    refine lv_iconst (v := 0) hx hb dX6_kinds_20 (by decide) ?_
    refine lv_iconst (v := 2) hx hb dX6_kinds_21 (by decide) ?_
    obtain ⟨r22, r22h, h⟩ := bd_some h
    refine x_backI hW (x_runV (As := [.ref (adr G 24), .int a0, .int ((0 : Int32)), .int ((2 : Int32))]) (rest := []) C hW (c_X6_fitting l G r22h H.size) cv_RX6_221 rv_X6 hl.1 rfl rfl ⟨by decide, by decide⟩ (Nat.le_of_ble_eq_true rfl) ⟨Nat.zero_le _, Nat.zero_le _⟩ dX6_kinds_22) (fun H locs hW => ?_)
    refine lv_goto (tgt := 29) hx hb dX6_kinds_25 (by decide) ?_
    obtain rfl := Option.some.inj h
    exact K _ _ _ _ dX6_kinds_29 hW
set_option maxRecDepth 100000 in
theorem c_X6_kinds (l : Launch) (G : Geo) {S : St} {a0 : Int32} {o : Int32 × St} (h : f_X6_kinds S a0 = some o) : MI 37 eX G l yX6_kinds cX6_kinds 2 (some .int) 5 [.ref (adr G 0), .int a0] S o.1 o.2 :=
  mI_of (by decide +kernel) (Nat.le_of_ble_eq_true rfl) (fun p e s m below meth c A H0 Q C K => w_f_X6_kinds C h K)
def f_X6_lose (S : St) (a0 : Int32) : Option (Int32 × St) :=
  bd (f_X6_sheetAt S a0) fun r2 => op r2 (some ((-1 : Int32), S)) fun k2 => ck (shX k2) <| bd (f_X4_isNothing S k2) fun r13 => if r13 = false then (bd (f_X4_end S k2) fun r22 => some ((1 : Int32), r22)) else (some ((0 : Int32), S))
set_option maxHeartbeats 4000000 in
set_option maxRecDepth 100000 in
theorem w_f_X6_lose {G : Geo} {p : Program} {l : Launch} {e : Env} {s : State} {m : MethodId} {args : Array Value} {below : List Frame} {meth : Method} {c : Code} {A : Nat → Prop} {H0 : Heap} {Q : State → Prop} (C : Cx G RX6 cX6_lose 3 p s m args c) {S : St} {a0 : Int32} {o : Int32 × St} (h : f_X6_lose S a0 = some o) (K : KI 37 eX G A H0 cX6_lose p l e 1 s m args below meth c Q ((o).1) ((o).2)) : ∀ (H : Heap) (locs : List Loc) (ls : Array Slot), HX G A H0 S H locs → lv_has ls 3 [(0, .ref (adr G 0)), (1, .int a0)] → W p l e (rmK 1) s m args below meth c H locs 0 0 Q (F0 m 0 ls []) := by
  obtain ⟨hx, hb, -⟩ := id C
  intro H locs ls hW hl
  unfold f_X6_lose at h
  refine lv_aload_n hx hb dX6_lose_0 rfl (lv_at hl 0 rfl) ?_
  refine lv_iload_n hx hb dX6_lose_1 rfl (lv_at hl 1 rfl) ?_
  obtain ⟨r2, r2h, h⟩ := bd_some h
  refine x_backE hW (x_runV (As := [.int a0]) (rest := []) C hW (c_X6_sheetAt l G r2h H.size) cv_RX6_61 rv_X6 hl.1 rfl rfl ⟨by decide, by decide⟩ (Nat.le_of_ble_eq_true rfl) ⟨Nat.zero_le _, Nat.zero_le _⟩ dX6_lose_2) (fun H locs hW => ?_)
  cases r2 with
  | none =>
    have h := op_n h
    refine lv_astore_nN (lv' := [(2, .null), (0, .ref (adr G 0)), (1, .int a0)]) hx hb dX6_lose_5 rfl hl (by decide) rfl (fun ls hl => ?_)
    refine lv_aload_nN hx hb dX6_lose_6 rfl (lv_at hl 0 rfl) ?_
    refine lv_ifnonnullN hx hb dX6_lose_7 ?_
    refine lv_iconst (v := (-1)) hx hb dX6_lose_10 (by decide) ?_
    obtain rfl := Option.some.inj h
    exact K _ _ _ _ dX6_lose_11 hW
  | some k2 =>
    have h := op_sm h
    obtain ⟨k2h, h⟩ := ck_some h
    refine lv_astore_n (lv' := [(2, .ref (adr G k2)), (0, .ref (adr G 0)), (1, .int a0)]) hx hb dX6_lose_5 rfl hl (by decide) rfl (fun ls hl => ?_)
    refine lv_aload_n hx hb dX6_lose_6 rfl (lv_at hl 0 rfl) ?_
    refine lv_ifnonnull (tgt := 12) hx hb dX6_lose_7 (by decide) ?_
    refine lv_aload_n hx hb dX6_lose_12 rfl (lv_at hl 0 rfl) ?_
    obtain ⟨r13, r13h, h⟩ := bd_some h
    refine x_backI hW (x_runV (As := []) (rest := []) C hW (c_X4_isNothing l G r13h H.size) cv_RX6_247 (rv_X4 k2h) hl.1 rfl rfl ⟨by decide, by decide⟩ (Nat.le_of_ble_eq_true rfl) ⟨Nat.zero_le _, Nat.zero_le _⟩ dX6_lose_13) (fun H locs hW => ?_)
    refine z_if_eq (tgt := 21) hx hb dX6_lose_16 (by decide) (fun b16 => ?_) (fun b16 => ?_)
    · have h := it_t b16 h
      refine lv_aload_n hx hb dX6_lose_21 rfl (lv_at hl 0 rfl) ?_
      obtain ⟨r22, r22h, h⟩ := bd_some h
      refine x_backV hW (x_runV (As := []) (rest := []) C hW (c_X4_end l G r22h H.size) cv_RX6_250 (rv_X4 k2h) hl.1 rfl rfl ⟨by decide, by decide⟩ (Nat.le_of_ble_eq_true rfl) ⟨Nat.zero_le _, Nat.zero_le _⟩ dX6_lose_22) (fun H locs hW => ?_)
      refine lv_iconst (v := 1) hx hb dX6_lose_25 (by decide) ?_
      obtain rfl := Option.some.inj h
      exact K _ _ _ _ dX6_lose_26 hW
    · have h := it_f b16 h
      refine lv_iconst (v := 0) hx hb dX6_lose_19 (by decide) ?_
      obtain rfl := Option.some.inj h
      exact K _ _ _ _ dX6_lose_20 hW
set_option maxRecDepth 100000 in
theorem c_X6_lose (l : Launch) (G : Geo) {S : St} {a0 : Int32} {o : Int32 × St} (h : f_X6_lose S a0 = some o) : MI 37 eX G l yX6_lose cX6_lose 3 (some .int) 1 [.ref (adr G 0), .int a0] S o.1 o.2 :=
  mI_of (by decide +kernel) (Nat.le_of_ble_eq_true rfl) (fun p e s m below meth c A H0 Q C K => w_f_X6_lose C h K)
def f_X6_many (S : St) (a0 : Int32) : Option (Int32) :=
  if a0 = 0 then (some (S 1 0)) else if a0 = 1 then (some (S 1 3)) else if a0 = 2 then (bd (f_X1_darkIn S 23) fun r63 => some r63) else if a0 = 3 then (bd (f_X1_pressesInAll S) fun r71 => some r71) else if a0 = 4 then (some (S 4 0)) else (some ((-2 : Int32)))
set_option maxHeartbeats 4000000 in
set_option maxRecDepth 100000 in
theorem w_f_X6_many {G : Geo} {p : Program} {l : Launch} {e : Env} {s : State} {m : MethodId} {args : Array Value} {below : List Frame} {meth : Method} {c : Code} {A : Nat → Prop} {H0 : Heap} {Q : State → Prop} (C : Cx G RX6 cX6_many 2 p s m args c) {S : St} {a0 : Int32} {o : Int32} (h : f_X6_many S a0 = some o) (K : KI 37 eX G A H0 cX6_many p l e 1 s m args below meth c Q o S) : ∀ (H : Heap) (locs : List Loc) (ls : Array Slot), HX G A H0 S H locs → lv_has ls 2 [(0, .ref (adr G 0)), (1, .int a0)] → W p l e (rmK 1) s m args below meth c H locs 0 0 Q (F0 m 0 ls []) := by
  obtain ⟨hx, hb, -⟩ := id C
  intro H locs ls hW hl
  unfold f_X6_many at h
  refine lv_iload_n hx hb dX6_many_0 rfl (lv_at hl 1 rfl) ?_
  by_cases v1_0 : a0 = 0
  · have h := it_t v1_0 h
    refine lv_tableIn (off := 35) (tgt := 36) hx hb dX6_many_1 (by rw [v1_0]; decide) (by rw [v1_0]; decide) (by rw [v1_0]; rfl) (by decide) ?_
    refine lv_aload_n hx hb dX6_many_36 rfl (lv_at hl 0 rfl) ?_
    refine gf_RX6_14 C hW dX6_many_37 ?_
    refine gf_RX6_193 C hW dX6_many_40 ?_
    obtain rfl := Option.some.inj h
    exact K _ _ _ _ dX6_many_43 hW
  · have h := it_f v1_0 h
    by_cases v1_1 : a0 = 1
    · have h := it_t v1_1 h
      refine lv_tableIn (off := 43) (tgt := 44) hx hb dX6_many_1 (by rw [v1_1]; decide) (by rw [v1_1]; decide) (by rw [v1_1]; rfl) (by decide) ?_
      refine lv_aload_n hx hb dX6_many_44 rfl (lv_at hl 0 rfl) ?_
      refine gf_RX6_14 C hW dX6_many_45 ?_
      refine gf_RX6_98 C hW dX6_many_48 ?_
      obtain rfl := Option.some.inj h
      exact K _ _ _ _ dX6_many_51 hW
    · have h := it_f v1_1 h
      by_cases v1_2 : a0 = 2
      · have h := it_t v1_2 h
        refine lv_tableIn (off := 51) (tgt := 52) hx hb dX6_many_1 (by rw [v1_2]; decide) (by rw [v1_2]; decide) (by rw [v1_2]; rfl) (by decide) ?_
        refine lv_aload_n hx hb dX6_many_52 rfl (lv_at hl 0 rfl) ?_
        refine gf_RX6_14 C hW dX6_many_53 ?_
        refine lv_aload_n hx hb dX6_many_56 rfl (lv_at hl 0 rfl) ?_
        refine gf_RX6_14 C hW dX6_many_57 ?_
        refine gf_RX6_107 C hW dX6_many_60 ?_
        obtain ⟨r63, r63h, h⟩ := bd_some h
        refine x_backI hW (x_runV (As := [.ref (adr G 23)]) (rest := []) C hW (c_X1_darkIn l G r63h H.size) cv_RX6_145 rv_X1 hl.1 rfl rfl ⟨by decide, by decide⟩ (Nat.le_of_ble_eq_true rfl) ⟨Nat.zero_le _, Nat.zero_le _⟩ dX6_many_63) (fun H locs hW => ?_)
        obtain rfl := Option.some.inj h
        exact K _ _ _ _ dX6_many_66 hW
      · have h := it_f v1_2 h
        by_cases v1_3 : a0 = 3
        · have h := it_t v1_3 h
          refine lv_tableIn (off := 66) (tgt := 67) hx hb dX6_many_1 (by rw [v1_3]; decide) (by rw [v1_3]; decide) (by rw [v1_3]; rfl) (by decide) ?_
          refine lv_aload_n hx hb dX6_many_67 rfl (lv_at hl 0 rfl) ?_
          refine gf_RX6_14 C hW dX6_many_68 ?_
          obtain ⟨r71, r71h, h⟩ := bd_some h
          refine x_backI hW (x_runV (As := []) (rest := []) C hW (c_X1_pressesInAll l G r71h H.size) cv_RX6_284 rv_X1 hl.1 rfl rfl ⟨by decide, by decide⟩ (Nat.le_of_ble_eq_true rfl) ⟨Nat.zero_le _, Nat.zero_le _⟩ dX6_many_71) (fun H locs hW => ?_)
          obtain rfl := Option.some.inj h
          exact K _ _ _ _ dX6_many_74 hW
        · have h := it_f v1_3 h
          by_cases v1_4 : a0 = 4
          · have h := it_t v1_4 h
            refine lv_tableIn (off := 74) (tgt := 75) hx hb dX6_many_1 (by rw [v1_4]; decide) (by rw [v1_4]; decide) (by rw [v1_4]; rfl) (by decide) ?_
            refine lv_aload_n hx hb dX6_many_75 rfl (lv_at hl 0 rfl) ?_
            refine gf_RX6_35 C hW dX6_many_76 ?_
            refine gf_RX6_92 C hW dX6_many_79 ?_
            obtain rfl := Option.some.inj h
            exact K _ _ _ _ dX6_many_82 hW
          · have h := it_f v1_4 h
            have w1_0 := ne_i 0 0 (by decide) v1_0
            have w1_1 := ne_i 1 1 (by decide) v1_1
            have w1_2 := ne_i 2 2 (by decide) v1_2
            have w1_3 := ne_i 3 3 (by decide) v1_3
            have w1_4 := ne_i 4 4 (by decide) v1_4
            refine lv_tableOut (tgt := 83) hx hb dX6_many_1 (by omega) (by decide) ?_
            refine lv_bipush (v := (-2)) hx hb dX6_many_83 (by decide) ?_
            obtain rfl := Option.some.inj h
            exact K _ _ _ _ dX6_many_85 hW
set_option maxRecDepth 100000 in
theorem c_X6_many (l : Launch) (G : Geo) {S : St} {a0 : Int32} {o : Int32} (h : f_X6_many S a0 = some o) : MI 37 eX G l yX6_many cX6_many 2 (some .int) 1 [.ref (adr G 0), .int a0] S o S :=
  mI_of (by decide +kernel) (Nat.le_of_ble_eq_true rfl) (fun p e s m below meth c A H0 Q C K => w_f_X6_many C h K)
def i_X6_odds_37 (S : St) (x1 : Int32) (x2 : Int32) (x3 : Int32) (x4 : Int32) : Option ((Int32 × Int32) ⊕ (Int32 × Int32)) :=
  if x1 ≤ x4 then (some (.inr (x3, x4))) else (some (.inl (x3 * (S 1 3), x4 + (1 : Int32))))
set_option maxHeartbeats 4000000 in
set_option maxRecDepth 100000 in
theorem w_i_X6_odds_37 {G : Geo} {p : Program} {l : Launch} {e : Env} {s : State} {m : MethodId} {args : Array Value} {below : List Frame} {meth : Method} {c : Code} {A : Nat → Prop} {H0 : Heap} {Q : State → Prop} (C : Cx G RX6 cX6_odds 6 p s m args c) {S : St} {x1 : Int32} {x2 : Int32} {x3 : Int32} {x4 : Int32} {o : (Int32 × Int32) ⊕ (Int32 × Int32)} (h : i_X6_odds_37 S x1 x2 x3 x4 = some o) (Kn : ∀ q, o = .inl q → ∀ (H : Heap) (locs : List Loc) (ls : Array Slot), HX G A H0 S H locs → lv_has ls 6 [(0, .ref (adr G 0)), (1, .int x1), (2, .int x2), (3, .int (q.1)), (4, .int (q.2))] → W p l e (rmK 10) s m args below meth c H locs 0 0 Q (F0 m 37 ls [])) (Kt : ∀ q, o = .inr q → ∀ (H : Heap) (locs : List Loc) (ls : Array Slot), HX G A H0 S H locs → lv_has ls 6 [(0, .ref (adr G 0)), (1, .int x1), (2, .int x2), (3, .int (q.1))] → W p l e (rmK 10) s m args below meth c H locs 0 0 Q (F0 m 59 ls [])) : ∀ (H : Heap) (locs : List Loc) (ls : Array Slot), HX G A H0 S H locs → lv_has ls 6 [(0, .ref (adr G 0)), (1, .int x1), (2, .int x2), (3, .int x3), (4, .int x4)] → W p l e (rmK 10) s m args below meth c H locs 0 0 Q (F0 m 37 ls []) := by
  obtain ⟨hx, hb, -⟩ := id C
  intro H locs ls hW hl
  unfold i_X6_odds_37 at h
  refine lv_iload hx hb dX6_odds_37 (lv_at hl 4 rfl) ?_
  refine lv_iload_n hx hb dX6_odds_39 rfl (lv_at hl 1 rfl) ?_
  refine lv_icmp_ge (tgt := 59) hx hb dX6_odds_40 (by decide) (fun b40 => ?_) (fun b40 => ?_)
  · have h := it_t b40 h
    obtain rfl := Option.some.inj h
    exact Kt _ rfl _ _ _ hW (lv_sub hl [0, 1, 2, 3] rfl)
  · have h := it_f b40 h
    refine lv_iload_n hx hb dX6_odds_43 rfl (lv_at hl 3 rfl) ?_
    refine lv_aload_n hx hb dX6_odds_44 rfl (lv_at hl 0 rfl) ?_
    refine gf_RX6_14 C hW dX6_odds_45 ?_
    refine gf_RX6_98 C hW dX6_odds_48 ?_
    refine lv_imul hx hb dX6_odds_51 ?_
    refine lv_istore_n (lv' := [(3, .int (x3 * (S 1 3))), (0, .ref (adr G 0)), (1, .int x1), (2, .int x2), (4, .int x4)]) hx hb dX6_odds_52 rfl hl (by decide) rfl (fun ls hl => ?_)
    refine lv_iinc (v := (x4 + (1 : Int32))) (lv' := [(4, .int (x4 + (1 : Int32))), (3, .int (x3 * (S 1 3))), (0, .ref (adr G 0)), (1, .int x1), (2, .int x2)]) hx hb dX6_odds_53 hl (k := 4) rfl rfl (by decide) rfl (fun ls hl => ?_)
    refine lv_goto (tgt := 37) hx hb dX6_odds_56 (by decide) ?_
    obtain rfl := Option.some.inj h
    exact Kn _ rfl _ _ _ hW (lv_sub hl [2, 3, 4, 1, 0] rfl)
set_option maxHeartbeats 4000000 in
set_option maxRecDepth 100000 in
theorem l_i_X6_odds_37 {G : Geo} {p : Program} {l : Launch} {e : Env} {s : State} {m : MethodId} {args : Array Value} {below : List Frame} {meth : Method} {c : Code} {A : Nat → Prop} {H0 : Heap} {Q : State → Prop} (C : Cx G RX6 cX6_odds 6 p s m args c) {S : St} {x1 : Int32} {x2 : Int32} {n : Nat} {q0 : Int32 × Int32} {u : Int32 × Int32} (hq : iter (fun q : Int32 × Int32 => i_X6_odds_37 S x1 x2 q.1 q.2) n q0 = some u) (Kt : (fun q : Int32 × Int32 => ∀ (H : Heap) (locs : List Loc) (ls : Array Slot), HX G A H0 S H locs → lv_has ls 6 [(0, .ref (adr G 0)), (1, .int x1), (2, .int x2), (3, .int (q.1))] → W p l e (rmK 10) s m args below meth c H locs 0 0 Q (F0 m 59 ls [])) u) : (fun q : Int32 × Int32 => ∀ (H : Heap) (locs : List Loc) (ls : Array Slot), HX G A H0 S H locs → lv_has ls 6 [(0, .ref (adr G 0)), (1, .int x1), (2, .int x2), (3, .int (q.1)), (4, .int (q.2))] → W p l e (rmK 10) s m args below meth c H locs 0 0 Q (F0 m 37 ls [])) q0 :=
  iter_W (P := fun q : Int32 × Int32 => ∀ (H : Heap) (locs : List Loc) (ls : Array Slot), HX G A H0 S H locs → lv_has ls 6 [(0, .ref (adr G 0)), (1, .int x1), (2, .int x2), (3, .int (q.1)), (4, .int (q.2))] → W p l e (rmK 10) s m args below meth c H locs 0 0 Q (F0 m 37 ls [])) (K := fun q : Int32 × Int32 => ∀ (H : Heap) (locs : List Loc) (ls : Array Slot), HX G A H0 S H locs → lv_has ls 6 [(0, .ref (adr G 0)), (1, .int x1), (2, .int x2), (3, .int (q.1))] → W p l e (rmK 10) s m args below meth c H locs 0 0 Q (F0 m 59 ls [])) (fun q o hit Kn Kt => w_i_X6_odds_37 C  hit Kn Kt) n q0 u hq Kt
def f_X6_odds (S : St) (a0 : Int32) (a1 : Int32) : Option (Int64 × St) :=
  bd (f_X6_isIn a0 ((0 : Int32)) ((4 : Int32))) fun r3 => if r3 = false then (some ((-9223372036854775808 : Int64), S)) else (bd (f_X6_isIn a1 ((0 : Int32)) ((1 : Int32))) fun r12 => if r12 = false then (some ((-9223372036854775808 : Int64), S)) else (bd (f_X1_isMissing S) fun r22 => if r22 = false then (bd (iter (fun q => i_X6_odds_37 S a0 a1 q.1 q.2) BIG ((1 : Int32), (0 : Int32))) fun q37 => ck (okc ((0 : Int32)) ((0 : Int32)) ((5 : Int32)) 5 5) <| bd (f_X6_darkRows_5 (va_up S 21 (va_cpy (S 23) (S 21) (ix ((0 : Int32))) (ix ((0 : Int32))) (ix ((5 : Int32))))) 21 a0) fun r85 => bd (f_X6_commonDivisor q37.1 r85.1) fun r93 => if r93 = 0 then (some ((-9223372036854775808 : Int64), r85.2)) else (if a1 = 0 then (ck (¬ r93 = 0) <| some ((r85.1 / r93).toInt64, r85.2)) else (ck (¬ r93 = 0) <| some ((q37.1 / r93).toInt64, r85.2)))) else (some ((-9223372036854775808 : Int64), S))))
set_option maxHeartbeats 4000000 in
set_option maxRecDepth 100000 in
theorem w_f_X6_odds {G : Geo} {p : Program} {l : Launch} {e : Env} {s : State} {m : MethodId} {args : Array Value} {below : List Frame} {meth : Method} {c : Code} {A : Nat → Prop} {H0 : Heap} {Q : State → Prop} (C : Cx G RX6 cX6_odds 6 p s m args c) {S : St} {a0 : Int32} {a1 : Int32} {o : Int64 × St} (h : f_X6_odds S a0 a1 = some o) (K : KL 37 eX G A H0 cX6_odds p l e 10 s m args below meth c Q ((o).1) ((o).2)) : ∀ (H : Heap) (locs : List Loc) (ls : Array Slot), HX G A H0 S H locs → lv_has ls 6 [(0, .ref (adr G 0)), (1, .int a0), (2, .int a1)] → W p l e (rmK 10) s m args below meth c H locs 0 0 Q (F0 m 0 ls []) := by
  obtain ⟨hx, hb, -⟩ := id C
  intro H locs ls hW hl
  unfold f_X6_odds at h
  refine lv_iload_n hx hb dX6_odds_0 rfl (lv_at hl 1 rfl) ?_
  refine lv_iconst (v := 0) hx hb dX6_odds_1 (by decide) ?_
  refine lv_iconst (v := 4) hx hb dX6_odds_2 (by decide) ?_
  obtain ⟨r3, r3h, h⟩ := bd_some h
  refine x_backI hW (x_runS (As := [.int a0, .int ((0 : Int32)), .int ((4 : Int32))]) (rest := []) C hW (c_X6_isIn l G (S := S) r3h H.size) cs_RX6_134 hl.1 rfl rfl ⟨by decide, by decide⟩ (Nat.le_of_ble_eq_true rfl) ⟨Nat.zero_le _, Nat.zero_le _⟩ dX6_odds_3) (fun H locs hW => ?_)
  refine z_if_eq (tgt := 28) hx hb dX6_odds_6 (by decide) (fun b6 => ?_) (fun b6 => ?_)
  · have h := it_t b6 h
    refine lv_ldc2 (v := (-9223372036854775808)) hx hb C.2.2.2.1 (C.2.2.2.2.1 _ uKL_RX6_229) dX6_odds_28 ?_
    obtain rfl := Option.some.inj h
    exact K _ _ _ _ dX6_odds_31 hW
  · have h := it_f b6 h
    refine lv_iload_n hx hb dX6_odds_9 rfl (lv_at hl 2 rfl) ?_
    refine lv_iconst (v := 0) hx hb dX6_odds_10 (by decide) ?_
    refine lv_iconst (v := 1) hx hb dX6_odds_11 (by decide) ?_
    obtain ⟨r12, r12h, h⟩ := bd_some h
    refine x_backI hW (x_runS (As := [.int a1, .int ((0 : Int32)), .int ((1 : Int32))]) (rest := []) C hW (c_X6_isIn l G (S := S) r12h H.size) cs_RX6_134 hl.1 rfl rfl ⟨by decide, by decide⟩ (Nat.le_of_ble_eq_true rfl) ⟨Nat.zero_le _, Nat.zero_le _⟩ dX6_odds_12) (fun H locs hW => ?_)
    refine z_if_eq (tgt := 28) hx hb dX6_odds_15 (by decide) (fun b15 => ?_) (fun b15 => ?_)
    · have h := it_t b15 h
      refine lv_ldc2 (v := (-9223372036854775808)) hx hb C.2.2.2.1 (C.2.2.2.2.1 _ uKL_RX6_229) dX6_odds_28 ?_
      obtain rfl := Option.some.inj h
      exact K _ _ _ _ dX6_odds_31 hW
    · have h := it_f b15 h
      refine lv_aload_n hx hb dX6_odds_18 rfl (lv_at hl 0 rfl) ?_
      refine gf_RX6_14 C hW dX6_odds_19 ?_
      obtain ⟨r22, r22h, h⟩ := bd_some h
      refine x_backI hW (x_runV (As := []) (rest := []) C hW (c_X1_isMissing l G r22h H.size) cv_RX6_156 rv_X1 hl.1 rfl rfl ⟨by decide, by decide⟩ (Nat.le_of_ble_eq_true rfl) ⟨Nat.zero_le _, Nat.zero_le _⟩ dX6_odds_22) (fun H locs hW => ?_)
      refine z_if_eq (tgt := 32) hx hb dX6_odds_25 (by decide) (fun b25 => ?_) (fun b25 => ?_)
      · have h := it_t b25 h
        refine lv_iconst (v := 1) hx hb dX6_odds_32 (by decide) ?_
        refine lv_istore_n (lv' := [(3, .int ((1 : Int32))), (0, .ref (adr G 0)), (1, .int a0), (2, .int a1)]) hx hb dX6_odds_33 rfl hl (by decide) rfl (fun ls hl => ?_)
        refine lv_iconst (v := 0) hx hb dX6_odds_34 (by decide) ?_
        refine lv_istore (lv' := [(4, .int ((0 : Int32))), (3, .int ((1 : Int32))), (0, .ref (adr G 0)), (1, .int a0), (2, .int a1)]) hx hb dX6_odds_35 hl (by decide) rfl (fun ls hl => ?_)
        obtain ⟨q37, q37h, h⟩ := bd_some h
        refine l_i_X6_odds_37 C  q37h ?_ _ _ _ hW (lv_sub hl [2, 3, 4, 1, 0] rfl)
        intro H locs ls hW hl
        refine lv_aload_n hx hb dX6_odds_59 rfl (lv_at hl 0 rfl) ?_
        refine gf_RX6_14 C hW dX6_odds_60 ?_
        refine gf_RX6_107 C hW dX6_odds_63 ?_
        refine lv_iconst (v := 0) hx hb dX6_odds_66 (by decide) ?_
        refine lv_aload_n hx hb dX6_odds_67 rfl (lv_at hl 0 rfl) ?_
        refine gf_RX6_52 C hW dX6_odds_68 ?_
        refine lv_iconst (v := 0) hx hb dX6_odds_71 (by decide) ?_
        refine lv_iconst (v := 5) hx hb dX6_odds_72 (by decide) ?_
        obtain ⟨g73, h⟩ := ck_some h
        refine x_copy C hW hl.1 uML_RX6_231 uNA_arraycopyName uST_arraycopyName uINI_RJ10 (k0 := 23) (k1 := 21) (by decide) (fun _ => rfl) (by decide) (fun _ => rfl) g73 (by decide) (by decide) dX6_odds_73 (fun H locs hW => ?_)
        refine lv_aload_n hx hb dX6_odds_76 rfl (lv_at hl 0 rfl) ?_
        refine gf_RX6_14 C hW dX6_odds_77 ?_
        refine lv_aload_n hx hb dX6_odds_80 rfl (lv_at hl 0 rfl) ?_
        refine gf_RX6_52 C hW dX6_odds_81 ?_
        refine lv_iload_n hx hb dX6_odds_84 rfl (lv_at hl 1 rfl) ?_
        obtain ⟨r85, r85h, h⟩ := bd_some h
        refine x_backI hW (x_runS (As := [.ref (adr G 1), .ref (adr G 21), .int a0]) (rest := []) C hW (c_X6_darkRows_5 l G r85h H.size) cs_RX6_237 hl.1 rfl rfl ⟨by decide, by decide⟩ (Nat.le_of_ble_eq_true rfl) ⟨Nat.zero_le _, Nat.zero_le _⟩ dX6_odds_85) (fun H locs hW => ?_)
        refine lv_istore (lv' := [(4, .int (r85.1)), (0, .ref (adr G 0)), (1, .int a0), (2, .int a1), (3, .int (q37.1))]) hx hb dX6_odds_88 hl (by decide) rfl (fun ls hl => ?_)
        refine lv_iload_n hx hb dX6_odds_90 rfl (lv_at hl 4 rfl) ?_
        refine lv_iload hx hb dX6_odds_91 (lv_at hl 0 rfl) ?_
        obtain ⟨r93, r93h, h⟩ := bd_some h
        refine x_backI hW (x_runS (As := [.int (q37.1), .int (r85.1)]) (rest := []) C hW (c_X6_commonDivisor l G (S := r85.2) r93h H.size) cs_RX6_240 hl.1 rfl rfl ⟨by decide, by decide⟩ (Nat.le_of_ble_eq_true rfl) ⟨Nat.zero_le _, Nat.zero_le _⟩ dX6_odds_93) (fun H locs hW => ?_)
        refine lv_istore (lv' := [(5, .int r93), (4, .int (r85.1)), (0, .ref (adr G 0)), (1, .int a0), (2, .int a1), (3, .int (q37.1))]) hx hb dX6_odds_96 hl (by decide) rfl (fun ls hl => ?_)
        refine lv_iload hx hb dX6_odds_98 (lv_at hl 0 rfl) ?_
        refine lv_if_ne (tgt := 107) hx hb dX6_odds_100 (by decide) (fun b100 => ?_) (fun b100 => ?_)
        · have h := it_f b100 h
          refine lv_iload_n hx hb dX6_odds_107 rfl (lv_at hl 4 rfl) ?_
          refine lv_if_ne (tgt := 116) hx hb dX6_odds_108 (by decide) (fun b108 => ?_) (fun b108 => ?_)
          · have h := it_f b108 h
            refine lv_iload_n hx hb dX6_odds_116 rfl (lv_at hl 5 rfl) ?_
            refine lv_iload hx hb dX6_odds_117 (lv_at hl 0 rfl) ?_
            obtain ⟨g119, h⟩ := ck_some h
            refine lv_idiv hx hb dX6_odds_119 g119 ?_
            refine lv_i2l hx hb dX6_odds_120 rfl ?_
            obtain rfl := Option.some.inj h
            exact K _ _ _ _ dX6_odds_121 hW
          · have h := it_t b108 h
            refine lv_iload hx hb dX6_odds_111 (lv_at hl 1 rfl) ?_
            refine lv_goto (tgt := 117) hx hb dX6_odds_113 (by decide) ?_
            refine lv_iload hx hb dX6_odds_117 (lv_at hl 0 rfl) ?_
            obtain ⟨g119, h⟩ := ck_some h
            refine lv_idiv hx hb dX6_odds_119 g119 ?_
            refine lv_i2l hx hb dX6_odds_120 rfl ?_
            obtain rfl := Option.some.inj h
            exact K _ _ _ _ dX6_odds_121 hW
        · have h := it_t b100 h
          refine lv_ldc2 (v := (-9223372036854775808)) hx hb C.2.2.2.1 (C.2.2.2.2.1 _ uKL_RX6_229) dX6_odds_103 ?_
          obtain rfl := Option.some.inj h
          exact K _ _ _ _ dX6_odds_106 hW
      · have h := it_f b25 h
        refine lv_ldc2 (v := (-9223372036854775808)) hx hb C.2.2.2.1 (C.2.2.2.2.1 _ uKL_RX6_229) dX6_odds_28 ?_
        obtain rfl := Option.some.inj h
        exact K _ _ _ _ dX6_odds_31 hW
set_option maxRecDepth 100000 in
theorem c_X6_odds (l : Launch) (G : Geo) {S : St} {a0 : Int32} {a1 : Int32} {o : Int64 × St} (h : f_X6_odds S a0 a1 = some o) : ML 37 eX G l yX6_odds cX6_odds 6 (some .long) 10 [.ref (adr G 0), .int a0, .int a1] S o.1 o.2 :=
  mL_of (by decide +kernel) (Nat.le_of_ble_eq_true rfl) (fun p e s m below meth c A H0 Q C K => w_f_X6_odds C h K)
def f_X6_ofLamp (S : St) (a0 : Int32) (a1 : Int32) : Option (Int32) :=
  bd (f_X1_hasLamp S a0) fun r5 => if r5 = true then (if a1 = 0 then (ck (okx a0 5) <| some (S 22 (ix a0))) else if a1 = 1 then (ck (okx a0 5) <| some (S 23 (ix a0))) else if a1 = 2 then (bd (f_X1_switchesTo S a0) fun r65 => some r65) else (some ((-2 : Int32)))) else (some ((-1 : Int32)))
set_option maxHeartbeats 4000000 in
set_option maxRecDepth 100000 in
theorem w_f_X6_ofLamp {G : Geo} {p : Program} {l : Launch} {e : Env} {s : State} {m : MethodId} {args : Array Value} {below : List Frame} {meth : Method} {c : Code} {A : Nat → Prop} {H0 : Heap} {Q : State → Prop} (C : Cx G RX6 cX6_ofLamp 3 p s m args c) {S : St} {a0 : Int32} {a1 : Int32} {o : Int32} (h : f_X6_ofLamp S a0 a1 = some o) (K : KI 37 eX G A H0 cX6_ofLamp p l e 2 s m args below meth c Q o S) : ∀ (H : Heap) (locs : List Loc) (ls : Array Slot), HX G A H0 S H locs → lv_has ls 3 [(0, .ref (adr G 0)), (1, .int a0), (2, .int a1)] → W p l e (rmK 2) s m args below meth c H locs 0 0 Q (F0 m 0 ls []) := by
  obtain ⟨hx, hb, -⟩ := id C
  intro H locs ls hW hl
  unfold f_X6_ofLamp at h
  refine lv_aload_n hx hb dX6_ofLamp_0 rfl (lv_at hl 0 rfl) ?_
  refine gf_RX6_14 C hW dX6_ofLamp_1 ?_
  refine lv_iload_n hx hb dX6_ofLamp_4 rfl (lv_at hl 1 rfl) ?_
  obtain ⟨r5, r5h, h⟩ := bd_some h
  refine x_backI hW (x_runV (As := [.int a0]) (rest := []) C hW (c_X1_hasLamp l G r5h H.size) cv_RX6_101 rv_X1 hl.1 rfl rfl ⟨by decide, by decide⟩ (Nat.le_of_ble_eq_true rfl) ⟨Nat.zero_le _, Nat.zero_le _⟩ dX6_ofLamp_5) (fun H locs hW => ?_)
  refine z_if_ne (tgt := 13) hx hb dX6_ofLamp_8 (by decide) (fun b8 => ?_) (fun b8 => ?_)
  · have h := it_t b8 h
    refine lv_iload_n hx hb dX6_ofLamp_13 rfl (lv_at hl 2 rfl) ?_
    by_cases v14_0 : a1 = 0
    · have h := it_t v14_0 h
      refine lv_tableIn (off := 26) (tgt := 40) hx hb dX6_ofLamp_14 (by rw [v14_0]; decide) (by rw [v14_0]; decide) (by rw [v14_0]; rfl) (by decide) ?_
      refine lv_aload_n hx hb dX6_ofLamp_40 rfl (lv_at hl 0 rfl) ?_
      refine gf_RX6_14 C hW dX6_ofLamp_41 ?_
      refine gf_RX6_104 C hW dX6_ofLamp_44 ?_
      refine lv_iload_n hx hb dX6_ofLamp_47 rfl (lv_at hl 1 rfl) ?_
      obtain ⟨g48, h⟩ := ck_some h
      refine x_iald C hW (k := 22) (n := 5) (by decide) (fun _ => rfl) g48 dX6_ofLamp_48 ?_
      obtain rfl := Option.some.inj h
      exact K _ _ _ _ dX6_ofLamp_49 hW
    · have h := it_f v14_0 h
      by_cases v14_1 : a1 = 1
      · have h := it_t v14_1 h
        refine lv_tableIn (off := 36) (tgt := 50) hx hb dX6_ofLamp_14 (by rw [v14_1]; decide) (by rw [v14_1]; decide) (by rw [v14_1]; rfl) (by decide) ?_
        refine lv_aload_n hx hb dX6_ofLamp_50 rfl (lv_at hl 0 rfl) ?_
        refine gf_RX6_14 C hW dX6_ofLamp_51 ?_
        refine gf_RX6_107 C hW dX6_ofLamp_54 ?_
        refine lv_iload_n hx hb dX6_ofLamp_57 rfl (lv_at hl 1 rfl) ?_
        obtain ⟨g58, h⟩ := ck_some h
        refine x_iald C hW (k := 23) (n := 5) (by decide) (fun _ => rfl) g58 dX6_ofLamp_58 ?_
        obtain rfl := Option.some.inj h
        exact K _ _ _ _ dX6_ofLamp_59 hW
      · have h := it_f v14_1 h
        by_cases v14_2 : a1 = 2
        · have h := it_t v14_2 h
          refine lv_tableIn (off := 46) (tgt := 60) hx hb dX6_ofLamp_14 (by rw [v14_2]; decide) (by rw [v14_2]; decide) (by rw [v14_2]; rfl) (by decide) ?_
          refine lv_aload_n hx hb dX6_ofLamp_60 rfl (lv_at hl 0 rfl) ?_
          refine gf_RX6_14 C hW dX6_ofLamp_61 ?_
          refine lv_iload_n hx hb dX6_ofLamp_64 rfl (lv_at hl 1 rfl) ?_
          obtain ⟨r65, r65h, h⟩ := bd_some h
          refine x_backI hW (x_runV (As := [.int a0]) (rest := []) C hW (c_X1_switchesTo l G r65h H.size) cv_RX6_110 rv_X1 hl.1 rfl rfl ⟨by decide, by decide⟩ (Nat.le_of_ble_eq_true rfl) ⟨Nat.zero_le _, Nat.zero_le _⟩ dX6_ofLamp_65) (fun H locs hW => ?_)
          obtain rfl := Option.some.inj h
          exact K _ _ _ _ dX6_ofLamp_68 hW
        · have h := it_f v14_2 h
          have w14_0 := ne_i 0 0 (by decide) v14_0
          have w14_1 := ne_i 1 1 (by decide) v14_1
          have w14_2 := ne_i 2 2 (by decide) v14_2
          refine lv_tableOut (tgt := 69) hx hb dX6_ofLamp_14 (by omega) (by decide) ?_
          refine lv_bipush (v := (-2)) hx hb dX6_ofLamp_69 (by decide) ?_
          obtain rfl := Option.some.inj h
          exact K _ _ _ _ dX6_ofLamp_71 hW
  · have h := it_f b8 h
    refine lv_iconst (v := (-1)) hx hb dX6_ofLamp_11 (by decide) ?_
    obtain rfl := Option.some.inj h
    exact K _ _ _ _ dX6_ofLamp_12 hW
set_option maxRecDepth 100000 in
theorem c_X6_ofLamp (l : Launch) (G : Geo) {S : St} {a0 : Int32} {a1 : Int32} {o : Int32} (h : f_X6_ofLamp S a0 a1 = some o) : MI 37 eX G l yX6_ofLamp cX6_ofLamp 3 (some .int) 2 [.ref (adr G 0), .int a0, .int a1] S o S :=
  mI_of (by decide +kernel) (Nat.le_of_ble_eq_true rfl) (fun p e s m below meth c A H0 Q C K => w_f_X6_ofLamp C h K)
def f_X6_ofSwitch (S : St) (a0 : Int32) (a1 : Int32) : Option (Int32) :=
  bd (f_X1_hasSwitch S a0) fun r5 => if r5 = true then (if a1 = 0 then (ck (okx a0 5) <| some (S 24 (ix a0))) else if a1 = 1 then (ck (okx a0 5) <| some (S 25 (ix a0))) else if a1 = 2 then (bd (f_X1_moves S a0) fun r73 => some r73) else if a1 = 3 then (ck (okx a0 5) <| some (S 26 (ix a0))) else if a1 = 4 then (ck (okx a0 5) <| some (S 27 (ix a0))) else (some ((-2 : Int32)))) else (some ((-1 : Int32)))
set_option maxHeartbeats 4000000 in
set_option maxRecDepth 100000 in
theorem w_f_X6_ofSwitch {G : Geo} {p : Program} {l : Launch} {e : Env} {s : State} {m : MethodId} {args : Array Value} {below : List Frame} {meth : Method} {c : Code} {A : Nat → Prop} {H0 : Heap} {Q : State → Prop} (C : Cx G RX6 cX6_ofSwitch 3 p s m args c) {S : St} {a0 : Int32} {a1 : Int32} {o : Int32} (h : f_X6_ofSwitch S a0 a1 = some o) (K : KI 37 eX G A H0 cX6_ofSwitch p l e 1 s m args below meth c Q o S) : ∀ (H : Heap) (locs : List Loc) (ls : Array Slot), HX G A H0 S H locs → lv_has ls 3 [(0, .ref (adr G 0)), (1, .int a0), (2, .int a1)] → W p l e (rmK 1) s m args below meth c H locs 0 0 Q (F0 m 0 ls []) := by
  obtain ⟨hx, hb, -⟩ := id C
  intro H locs ls hW hl
  unfold f_X6_ofSwitch at h
  refine lv_aload_n hx hb dX6_ofSwitch_0 rfl (lv_at hl 0 rfl) ?_
  refine gf_RX6_14 C hW dX6_ofSwitch_1 ?_
  refine lv_iload_n hx hb dX6_ofSwitch_4 rfl (lv_at hl 1 rfl) ?_
  obtain ⟨r5, r5h, h⟩ := bd_some h
  refine x_backI hW (x_runV (As := [.int a0]) (rest := []) C hW (c_X1_hasSwitch l G r5h H.size) cv_RX6_113 rv_X1 hl.1 rfl rfl ⟨by decide, by decide⟩ (Nat.le_of_ble_eq_true rfl) ⟨Nat.zero_le _, Nat.zero_le _⟩ dX6_ofSwitch_5) (fun H locs hW => ?_)
  refine z_if_ne (tgt := 13) hx hb dX6_ofSwitch_8 (by decide) (fun b8 => ?_) (fun b8 => ?_)
  · have h := it_t b8 h
    refine lv_iload_n hx hb dX6_ofSwitch_13 rfl (lv_at hl 2 rfl) ?_
    by_cases v14_0 : a1 = 0
    · have h := it_t v14_0 h
      refine lv_tableIn (off := 34) (tgt := 48) hx hb dX6_ofSwitch_14 (by rw [v14_0]; decide) (by rw [v14_0]; decide) (by rw [v14_0]; rfl) (by decide) ?_
      refine lv_aload_n hx hb dX6_ofSwitch_48 rfl (lv_at hl 0 rfl) ?_
      refine gf_RX6_14 C hW dX6_ofSwitch_49 ?_
      refine gf_RX6_116 C hW dX6_ofSwitch_52 ?_
      refine lv_iload_n hx hb dX6_ofSwitch_55 rfl (lv_at hl 1 rfl) ?_
      obtain ⟨g56, h⟩ := ck_some h
      refine x_iald C hW (k := 24) (n := 5) (by decide) (fun _ => rfl) g56 dX6_ofSwitch_56 ?_
      obtain rfl := Option.some.inj h
      exact K _ _ _ _ dX6_ofSwitch_57 hW
    · have h := it_f v14_0 h
      by_cases v14_1 : a1 = 1
      · have h := it_t v14_1 h
        refine lv_tableIn (off := 44) (tgt := 58) hx hb dX6_ofSwitch_14 (by rw [v14_1]; decide) (by rw [v14_1]; decide) (by rw [v14_1]; rfl) (by decide) ?_
        refine lv_aload_n hx hb dX6_ofSwitch_58 rfl (lv_at hl 0 rfl) ?_
        refine gf_RX6_14 C hW dX6_ofSwitch_59 ?_
        refine gf_RX6_119 C hW dX6_ofSwitch_62 ?_
        refine lv_iload_n hx hb dX6_ofSwitch_65 rfl (lv_at hl 1 rfl) ?_
        obtain ⟨g66, h⟩ := ck_some h
        refine x_iald C hW (k := 25) (n := 5) (by decide) (fun _ => rfl) g66 dX6_ofSwitch_66 ?_
        obtain rfl := Option.some.inj h
        exact K _ _ _ _ dX6_ofSwitch_67 hW
      · have h := it_f v14_1 h
        by_cases v14_2 : a1 = 2
        · have h := it_t v14_2 h
          refine lv_tableIn (off := 54) (tgt := 68) hx hb dX6_ofSwitch_14 (by rw [v14_2]; decide) (by rw [v14_2]; decide) (by rw [v14_2]; rfl) (by decide) ?_
          refine lv_aload_n hx hb dX6_ofSwitch_68 rfl (lv_at hl 0 rfl) ?_
          refine gf_RX6_14 C hW dX6_ofSwitch_69 ?_
          refine lv_iload_n hx hb dX6_ofSwitch_72 rfl (lv_at hl 1 rfl) ?_
          obtain ⟨r73, r73h, h⟩ := bd_some h
          refine x_backI hW (x_runV (As := [.int a0]) (rest := []) C hW (c_X1_moves l G r73h H.size) cv_RX6_122 rv_X1 hl.1 rfl rfl ⟨by decide, by decide⟩ (Nat.le_of_ble_eq_true rfl) ⟨Nat.zero_le _, Nat.zero_le _⟩ dX6_ofSwitch_73) (fun H locs hW => ?_)
          obtain rfl := Option.some.inj h
          exact K _ _ _ _ dX6_ofSwitch_76 hW
        · have h := it_f v14_2 h
          by_cases v14_3 : a1 = 3
          · have h := it_t v14_3 h
            refine lv_tableIn (off := 63) (tgt := 77) hx hb dX6_ofSwitch_14 (by rw [v14_3]; decide) (by rw [v14_3]; decide) (by rw [v14_3]; rfl) (by decide) ?_
            refine lv_aload_n hx hb dX6_ofSwitch_77 rfl (lv_at hl 0 rfl) ?_
            refine gf_RX6_14 C hW dX6_ofSwitch_78 ?_
            refine gf_RX6_125 C hW dX6_ofSwitch_81 ?_
            refine lv_iload_n hx hb dX6_ofSwitch_84 rfl (lv_at hl 1 rfl) ?_
            obtain ⟨g85, h⟩ := ck_some h
            refine x_iald C hW (k := 26) (n := 5) (by decide) (fun _ => rfl) g85 dX6_ofSwitch_85 ?_
            obtain rfl := Option.some.inj h
            exact K _ _ _ _ dX6_ofSwitch_86 hW
          · have h := it_f v14_3 h
            by_cases v14_4 : a1 = 4
            · have h := it_t v14_4 h
              refine lv_tableIn (off := 73) (tgt := 87) hx hb dX6_ofSwitch_14 (by rw [v14_4]; decide) (by rw [v14_4]; decide) (by rw [v14_4]; rfl) (by decide) ?_
              refine lv_aload_n hx hb dX6_ofSwitch_87 rfl (lv_at hl 0 rfl) ?_
              refine gf_RX6_14 C hW dX6_ofSwitch_88 ?_
              refine gf_RX6_128 C hW dX6_ofSwitch_91 ?_
              refine lv_iload_n hx hb dX6_ofSwitch_94 rfl (lv_at hl 1 rfl) ?_
              obtain ⟨g95, h⟩ := ck_some h
              refine x_iald C hW (k := 27) (n := 5) (by decide) (fun _ => rfl) g95 dX6_ofSwitch_95 ?_
              obtain rfl := Option.some.inj h
              exact K _ _ _ _ dX6_ofSwitch_96 hW
            · have h := it_f v14_4 h
              have w14_0 := ne_i 0 0 (by decide) v14_0
              have w14_1 := ne_i 1 1 (by decide) v14_1
              have w14_2 := ne_i 2 2 (by decide) v14_2
              have w14_3 := ne_i 3 3 (by decide) v14_3
              have w14_4 := ne_i 4 4 (by decide) v14_4
              refine lv_tableOut (tgt := 97) hx hb dX6_ofSwitch_14 (by omega) (by decide) ?_
              refine lv_bipush (v := (-2)) hx hb dX6_ofSwitch_97 (by decide) ?_
              obtain rfl := Option.some.inj h
              exact K _ _ _ _ dX6_ofSwitch_99 hW
  · have h := it_f b8 h
    refine lv_iconst (v := (-1)) hx hb dX6_ofSwitch_11 (by decide) ?_
    obtain rfl := Option.some.inj h
    exact K _ _ _ _ dX6_ofSwitch_12 hW
set_option maxRecDepth 100000 in
theorem c_X6_ofSwitch (l : Launch) (G : Geo) {S : St} {a0 : Int32} {a1 : Int32} {o : Int32} (h : f_X6_ofSwitch S a0 a1 = some o) : MI 37 eX G l yX6_ofSwitch cX6_ofSwitch 3 (some .int) 1 [.ref (adr G 0), .int a0, .int a1] S o S :=
  mI_of (by decide +kernel) (Nat.le_of_ble_eq_true rfl) (fun p e s m below meth c A H0 Q C K => w_f_X6_ofSwitch C h K)
def f_X6_press (S : St) (a0 : Int32) (a1 : Int32) : Option (Int32 × St) :=
  bd (f_X1_hasSwitch S a0) fun r5 => if r5 = true then (bd (f_X6_isIn a1 ((1 : Int32)) ((99 : Int32))) fun r17 => if r17 = true then (bd (f_X1_turnOn S 23 a0 a1) fun r39 => ck (okx a0 5) <| ck (okx a0 5) <| bd (f_X1_darkIn (up r39 27 (ix a0) ((r39 27 (ix a0)) + a1)) 23) fun r66 => some (r66, up r39 27 (ix a0) ((r39 27 (ix a0)) + a1))) else (some ((-2 : Int32), S))) else (some ((-1 : Int32), S))
set_option maxHeartbeats 4000000 in
set_option maxRecDepth 100000 in
theorem w_f_X6_press {G : Geo} {p : Program} {l : Launch} {e : Env} {s : State} {m : MethodId} {args : Array Value} {below : List Frame} {meth : Method} {c : Code} {A : Nat → Prop} {H0 : Heap} {Q : State → Prop} (C : Cx G RX6 cX6_press 3 p s m args c) {S : St} {a0 : Int32} {a1 : Int32} {o : Int32 × St} (h : f_X6_press S a0 a1 = some o) (K : KI 37 eX G A H0 cX6_press p l e 4 s m args below meth c Q ((o).1) ((o).2)) : ∀ (H : Heap) (locs : List Loc) (ls : Array Slot), HX G A H0 S H locs → lv_has ls 3 [(0, .ref (adr G 0)), (1, .int a0), (2, .int a1)] → W p l e (rmK 4) s m args below meth c H locs 0 0 Q (F0 m 0 ls []) := by
  obtain ⟨hx, hb, -⟩ := id C
  intro H locs ls hW hl
  unfold f_X6_press at h
  refine lv_aload_n hx hb dX6_press_0 rfl (lv_at hl 0 rfl) ?_
  refine gf_RX6_14 C hW dX6_press_1 ?_
  refine lv_iload_n hx hb dX6_press_4 rfl (lv_at hl 1 rfl) ?_
  obtain ⟨r5, r5h, h⟩ := bd_some h
  refine x_backI hW (x_runV (As := [.int a0]) (rest := []) C hW (c_X1_hasSwitch l G r5h H.size) cv_RX6_113 rv_X1 hl.1 rfl rfl ⟨by decide, by decide⟩ (Nat.le_of_ble_eq_true rfl) ⟨Nat.zero_le _, Nat.zero_le _⟩ dX6_press_5) (fun H locs hW => ?_)
  refine z_if_ne (tgt := 13) hx hb dX6_press_8 (by decide) (fun b8 => ?_) (fun b8 => ?_)
  · have h := it_t b8 h
    refine lv_iload_n hx hb dX6_press_13 rfl (lv_at hl 2 rfl) ?_
    refine lv_iconst (v := 1) hx hb dX6_press_14 (by decide) ?_
    refine lv_bipush (v := 99) hx hb dX6_press_15 (by decide) ?_
    obtain ⟨r17, r17h, h⟩ := bd_some h
    refine x_backI hW (x_runS (As := [.int a1, .int ((1 : Int32)), .int ((99 : Int32))]) (rest := []) C hW (c_X6_isIn l G (S := S) r17h H.size) cs_RX6_134 hl.1 rfl rfl ⟨by decide, by decide⟩ (Nat.le_of_ble_eq_true rfl) ⟨Nat.zero_le _, Nat.zero_le _⟩ dX6_press_17) (fun H locs hW => ?_)
    refine z_if_ne (tgt := 26) hx hb dX6_press_20 (by decide) (fun b20 => ?_) (fun b20 => ?_)
    · have h := it_t b20 h
      refine lv_aload_n hx hb dX6_press_26 rfl (lv_at hl 0 rfl) ?_
      refine gf_RX6_14 C hW dX6_press_27 ?_
      refine lv_aload_n hx hb dX6_press_30 rfl (lv_at hl 0 rfl) ?_
      refine gf_RX6_14 C hW dX6_press_31 ?_
      refine gf_RX6_107 C hW dX6_press_34 ?_
      refine lv_iload_n hx hb dX6_press_37 rfl (lv_at hl 1 rfl) ?_
      refine lv_iload_n hx hb dX6_press_38 rfl (lv_at hl 2 rfl) ?_
      obtain ⟨r39, r39h, h⟩ := bd_some h
      refine x_backV hW (x_runV (As := [.ref (adr G 23), .int a0, .int a1]) (rest := []) C hW (c_X1_turnOn l G r39h H.size) cv_RX6_141 rv_X1 hl.1 rfl rfl ⟨by decide, by decide⟩ (Nat.le_of_ble_eq_true rfl) ⟨Nat.zero_le _, Nat.zero_le _⟩ dX6_press_39) (fun H locs hW => ?_)
      refine lv_aload_n hx hb dX6_press_42 rfl (lv_at hl 0 rfl) ?_
      refine gf_RX6_14 C hW dX6_press_43 ?_
      refine gf_RX6_128 C hW dX6_press_46 ?_
      refine lv_iload_n hx hb dX6_press_49 rfl (lv_at hl 1 rfl) ?_
      refine lv_dup2_11 hx hb dX6_press_50 rfl rfl ?_
      obtain ⟨g51, h⟩ := ck_some h
      refine x_iald C hW (k := 27) (n := 5) (by decide) (fun _ => rfl) g51 dX6_press_51 ?_
      refine lv_iload_n hx hb dX6_press_52 rfl (lv_at hl 2 rfl) ?_
      refine lv_iadd hx hb dX6_press_53 ?_
      obtain ⟨g54, h⟩ := ck_some h
      refine x_iast C hW (k := 27) (n := 5) (by decide) (fun _ => rfl) g54 dX6_press_54 (fun H locs hW => ?_)
      refine lv_aload_n hx hb dX6_press_55 rfl (lv_at hl 0 rfl) ?_
      refine gf_RX6_14 C hW dX6_press_56 ?_
      refine lv_aload_n hx hb dX6_press_59 rfl (lv_at hl 0 rfl) ?_
      refine gf_RX6_14 C hW dX6_press_60 ?_
      refine gf_RX6_107 C hW dX6_press_63 ?_
      obtain ⟨r66, r66h, h⟩ := bd_some h
      refine x_backI hW (x_runV (As := [.ref (adr G 23)]) (rest := []) C hW (c_X1_darkIn l G r66h H.size) cv_RX6_145 rv_X1 hl.1 rfl rfl ⟨by decide, by decide⟩ (Nat.le_of_ble_eq_true rfl) ⟨Nat.zero_le _, Nat.zero_le _⟩ dX6_press_66) (fun H locs hW => ?_)
      obtain rfl := Option.some.inj h
      exact K _ _ _ _ dX6_press_69 hW
    · have h := it_f b20 h
      refine lv_bipush (v := (-2)) hx hb dX6_press_23 (by decide) ?_
      obtain rfl := Option.some.inj h
      exact K _ _ _ _ dX6_press_25 hW
  · have h := it_f b8 h
    refine lv_iconst (v := (-1)) hx hb dX6_press_11 (by decide) ?_
    obtain rfl := Option.some.inj h
    exact K _ _ _ _ dX6_press_12 hW
set_option maxRecDepth 100000 in
theorem c_X6_press (l : Launch) (G : Geo) {S : St} {a0 : Int32} {a1 : Int32} {o : Int32 × St} (h : f_X6_press S a0 a1 = some o) : MI 37 eX G l yX6_press cX6_press 3 (some .int) 4 [.ref (adr G 0), .int a0, .int a1] S o.1 o.2 :=
  mI_of (by decide +kernel) (Nat.le_of_ble_eq_true rfl) (fun p e s m below meth c A H0 Q C K => w_f_X6_press C h K)
def f_X6_put (S : St) (a0 : Int32) (a1 : Int32) (a2 : Int32) : Option (Int32 × St) :=
  bd (f_X6_sheetAt (up S 0 8 ((0 : Int32))) a0) fun r7 => op r7 (some ((-1 : Int32), up S 0 8 ((0 : Int32)))) fun k7 => ck (shX k7) <| bd (f_X4_isNothing (up S 0 8 ((0 : Int32))) k7) fun r21 => if r21 = false then (bd (f_X4_hasCells (up S 0 8 ((0 : Int32))) k7 a1 ((1 : Int32))) fun r37 => if r37 = true then (bd (f_X4_set (up S 0 8 ((0 : Int32))) k7 a1 a2) fun r53 => some ((1 : Int32), r53)) else (bd (f_X6_faulted (up S 0 8 ((0 : Int32))) ((3 : Int32))) fun r45 => some (r45.1, r45.2))) else (bd (f_X6_faulted (up S 0 8 ((0 : Int32))) ((1 : Int32))) fun r29 => some (r29.1, r29.2))
set_option maxHeartbeats 4000000 in
set_option maxRecDepth 100000 in
theorem w_f_X6_put {G : Geo} {p : Program} {l : Launch} {e : Env} {s : State} {m : MethodId} {args : Array Value} {below : List Frame} {meth : Method} {c : Code} {A : Nat → Prop} {H0 : Heap} {Q : State → Prop} (C : Cx G RX6 cX6_put 5 p s m args c) {S : St} {a0 : Int32} {a1 : Int32} {a2 : Int32} {o : Int32 × St} (h : f_X6_put S a0 a1 a2 = some o) (K : KI 37 eX G A H0 cX6_put p l e 2 s m args below meth c Q ((o).1) ((o).2)) : ∀ (H : Heap) (locs : List Loc) (ls : Array Slot), HX G A H0 S H locs → lv_has ls 5 [(0, .ref (adr G 0)), (1, .int a0), (2, .int a1), (3, .int a2)] → W p l e (rmK 2) s m args below meth c H locs 0 0 Q (F0 m 0 ls []) := by
  obtain ⟨hx, hb, -⟩ := id C
  intro H locs ls hW hl
  unfold f_X6_put at h
  refine lv_aload_n hx hb dX6_put_0 rfl (lv_at hl 0 rfl) ?_
  refine lv_iconst (v := 0) hx hb dX6_put_1 (by decide) ?_
  refine pf_RX6_57 C hW dX6_put_2 (fun H locs hW => ?_)
  refine lv_aload_n hx hb dX6_put_5 rfl (lv_at hl 0 rfl) ?_
  refine lv_iload_n hx hb dX6_put_6 rfl (lv_at hl 1 rfl) ?_
  obtain ⟨r7, r7h, h⟩ := bd_some h
  refine x_backE hW (x_runV (As := [.int a0]) (rest := []) C hW (c_X6_sheetAt l G r7h H.size) cv_RX6_61 rv_X6 hl.1 rfl rfl ⟨by decide, by decide⟩ (Nat.le_of_ble_eq_true rfl) ⟨Nat.zero_le _, Nat.zero_le _⟩ dX6_put_7) (fun H locs hW => ?_)
  cases r7 with
  | none =>
    have h := op_n h
    refine lv_astoreN (lv' := [(4, .null), (0, .ref (adr G 0)), (1, .int a0), (2, .int a1), (3, .int a2)]) hx hb dX6_put_10 hl (by decide) rfl (fun ls hl => ?_)
    refine lv_aloadN hx hb dX6_put_12 (lv_at hl 0 rfl) ?_
    refine lv_ifnonnullN hx hb dX6_put_14 ?_
    refine lv_iconst (v := (-1)) hx hb dX6_put_17 (by decide) ?_
    obtain rfl := Option.some.inj h
    exact K _ _ _ _ dX6_put_18 hW
  | some k7 =>
    have h := op_sm h
    obtain ⟨k7h, h⟩ := ck_some h
    refine lv_astore (lv' := [(4, .ref (adr G k7)), (0, .ref (adr G 0)), (1, .int a0), (2, .int a1), (3, .int a2)]) hx hb dX6_put_10 hl (by decide) rfl (fun ls hl => ?_)
    refine lv_aload hx hb dX6_put_12 (lv_at hl 0 rfl) ?_
    refine lv_ifnonnull (tgt := 19) hx hb dX6_put_14 (by decide) ?_
    refine lv_aload hx hb dX6_put_19 (lv_at hl 0 rfl) ?_
    obtain ⟨r21, r21h, h⟩ := bd_some h
    refine x_backI hW (x_runV (As := []) (rest := []) C hW (c_X4_isNothing l G r21h H.size) cv_RX6_247 (rv_X4 k7h) hl.1 rfl rfl ⟨by decide, by decide⟩ (Nat.le_of_ble_eq_true rfl) ⟨Nat.zero_le _, Nat.zero_le _⟩ dX6_put_21) (fun H locs hW => ?_)
    refine z_if_eq (tgt := 33) hx hb dX6_put_24 (by decide) (fun b24 => ?_) (fun b24 => ?_)
    · have h := it_t b24 h
      refine lv_aload hx hb dX6_put_33 (lv_at hl 0 rfl) ?_
      refine lv_iload_n hx hb dX6_put_35 rfl (lv_at hl 3 rfl) ?_
      refine lv_iconst (v := 1) hx hb dX6_put_36 (by decide) ?_
      obtain ⟨r37, r37h, h⟩ := bd_some h
      refine x_backI hW (x_runV (As := [.int a1, .int ((1 : Int32))]) (rest := []) C hW (c_X4_hasCells l G r37h H.size) cv_RX6_73 (rv_X4 k7h) hl.1 rfl rfl ⟨by decide, by decide⟩ (Nat.le_of_ble_eq_true rfl) ⟨Nat.zero_le _, Nat.zero_le _⟩ dX6_put_37) (fun H locs hW => ?_)
      refine z_if_ne (tgt := 49) hx hb dX6_put_40 (by decide) (fun b40 => ?_) (fun b40 => ?_)
      · have h := it_t b40 h
        refine lv_aload hx hb dX6_put_49 (lv_at hl 0 rfl) ?_
        refine lv_iload_n hx hb dX6_put_51 rfl (lv_at hl 3 rfl) ?_
        refine lv_iload_n hx hb dX6_put_52 rfl (lv_at hl 4 rfl) ?_
        obtain ⟨r53, r53h, h⟩ := bd_some h
        refine x_backV hW (x_runV (As := [.int a1, .int a2]) (rest := []) C hW (c_X4_set l G r53h H.size) cv_RX6_253 (rv_X4 k7h) hl.1 rfl rfl ⟨by decide, by decide⟩ (Nat.le_of_ble_eq_true rfl) ⟨Nat.zero_le _, Nat.zero_le _⟩ dX6_put_53) (fun H locs hW => ?_)
        refine lv_iconst (v := 1) hx hb dX6_put_56 (by decide) ?_
        obtain rfl := Option.some.inj h
        exact K _ _ _ _ dX6_put_57 hW
      · have h := it_f b40 h
        refine lv_aload_n hx hb dX6_put_43 rfl (lv_at hl 1 rfl) ?_
        refine lv_iconst (v := 3) hx hb dX6_put_44 (by decide) ?_
        obtain ⟨r45, r45h, h⟩ := bd_some h
        refine x_backI hW (x_runV (As := [.int ((3 : Int32))]) (rest := []) C hW (c_X6_faulted l G r45h H.size) cv_RX6_77 rv_X6 hl.1 rfl rfl ⟨by decide, by decide⟩ (Nat.le_of_ble_eq_true rfl) ⟨Nat.zero_le _, Nat.zero_le _⟩ dX6_put_45) (fun H locs hW => ?_)
        obtain rfl := Option.some.inj h
        exact K _ _ _ _ dX6_put_48 hW
    · have h := it_f b24 h
      refine lv_aload_n hx hb dX6_put_27 rfl (lv_at hl 1 rfl) ?_
      refine lv_iconst (v := 1) hx hb dX6_put_28 (by decide) ?_
      obtain ⟨r29, r29h, h⟩ := bd_some h
      refine x_backI hW (x_runV (As := [.int ((1 : Int32))]) (rest := []) C hW (c_X6_faulted l G r29h H.size) cv_RX6_77 rv_X6 hl.1 rfl rfl ⟨by decide, by decide⟩ (Nat.le_of_ble_eq_true rfl) ⟨Nat.zero_le _, Nat.zero_le _⟩ dX6_put_29) (fun H locs hW => ?_)
      obtain rfl := Option.some.inj h
      exact K _ _ _ _ dX6_put_32 hW
set_option maxRecDepth 100000 in
theorem c_X6_put (l : Launch) (G : Geo) {S : St} {a0 : Int32} {a1 : Int32} {a2 : Int32} {o : Int32 × St} (h : f_X6_put S a0 a1 a2 = some o) : MI 37 eX G l yX6_put cX6_put 5 (some .int) 2 [.ref (adr G 0), .int a0, .int a1, .int a2] S o.1 o.2 :=
  mI_of (by decide +kernel) (Nat.le_of_ble_eq_true rfl) (fun p e s m below meth c A H0 Q C K => w_f_X6_put C h K)
def f_X6_reading (S : St) (a0 : Int32) (a1 : Int32) (a2 : Int32) : Option (Int32 × St) :=
  bd (f_X1_hasSwitch S a0) fun r5 => if r5 = false then (some ((-1 : Int32), S)) else (bd (f_X1_hasLamp S a1) fun r16 => if r16 = true then (bd (f_X6_isIn a2 ((0 : Int32)) ((4 : Int32))) fun r27 => if r27 = true then (bd (f_X3_add S a0 a1 a2) fun r43 => some (r43.1, r43.2)) else (some ((-2 : Int32), S))) else (some ((-1 : Int32), S)))
set_option maxHeartbeats 4000000 in
set_option maxRecDepth 100000 in
theorem w_f_X6_reading {G : Geo} {p : Program} {l : Launch} {e : Env} {s : State} {m : MethodId} {args : Array Value} {below : List Frame} {meth : Method} {c : Code} {A : Nat → Prop} {H0 : Heap} {Q : State → Prop} (C : Cx G RX6 cX6_reading 4 p s m args c) {S : St} {a0 : Int32} {a1 : Int32} {a2 : Int32} {o : Int32 × St} (h : f_X6_reading S a0 a1 a2 = some o) (K : KI 37 eX G A H0 cX6_reading p l e 1 s m args below meth c Q ((o).1) ((o).2)) : ∀ (H : Heap) (locs : List Loc) (ls : Array Slot), HX G A H0 S H locs → lv_has ls 4 [(0, .ref (adr G 0)), (1, .int a0), (2, .int a1), (3, .int a2)] → W p l e (rmK 1) s m args below meth c H locs 0 0 Q (F0 m 0 ls []) := by
  obtain ⟨hx, hb, -⟩ := id C
  intro H locs ls hW hl
  unfold f_X6_reading at h
  refine lv_aload_n hx hb dX6_reading_0 rfl (lv_at hl 0 rfl) ?_
  refine gf_RX6_14 C hW dX6_reading_1 ?_
  refine lv_iload_n hx hb dX6_reading_4 rfl (lv_at hl 1 rfl) ?_
  obtain ⟨r5, r5h, h⟩ := bd_some h
  refine x_backI hW (x_runV (As := [.int a0]) (rest := []) C hW (c_X1_hasSwitch l G r5h H.size) cv_RX6_113 rv_X1 hl.1 rfl rfl ⟨by decide, by decide⟩ (Nat.le_of_ble_eq_true rfl) ⟨Nat.zero_le _, Nat.zero_le _⟩ dX6_reading_5) (fun H locs hW => ?_)
  refine z_if_eq (tgt := 22) hx hb dX6_reading_8 (by decide) (fun b8 => ?_) (fun b8 => ?_)
  · have h := it_t b8 h
    refine lv_iconst (v := (-1)) hx hb dX6_reading_22 (by decide) ?_
    obtain rfl := Option.some.inj h
    exact K _ _ _ _ dX6_reading_23 hW
  · have h := it_f b8 h
    refine lv_aload_n hx hb dX6_reading_11 rfl (lv_at hl 0 rfl) ?_
    refine gf_RX6_14 C hW dX6_reading_12 ?_
    refine lv_iload_n hx hb dX6_reading_15 rfl (lv_at hl 2 rfl) ?_
    obtain ⟨r16, r16h, h⟩ := bd_some h
    refine x_backI hW (x_runV (As := [.int a1]) (rest := []) C hW (c_X1_hasLamp l G r16h H.size) cv_RX6_101 rv_X1 hl.1 rfl rfl ⟨by decide, by decide⟩ (Nat.le_of_ble_eq_true rfl) ⟨Nat.zero_le _, Nat.zero_le _⟩ dX6_reading_16) (fun H locs hW => ?_)
    refine z_if_ne (tgt := 24) hx hb dX6_reading_19 (by decide) (fun b19 => ?_) (fun b19 => ?_)
    · have h := it_t b19 h
      refine lv_iload_n hx hb dX6_reading_24 rfl (lv_at hl 3 rfl) ?_
      refine lv_iconst (v := 0) hx hb dX6_reading_25 (by decide) ?_
      refine lv_iconst (v := 4) hx hb dX6_reading_26 (by decide) ?_
      obtain ⟨r27, r27h, h⟩ := bd_some h
      refine x_backI hW (x_runS (As := [.int a2, .int ((0 : Int32)), .int ((4 : Int32))]) (rest := []) C hW (c_X6_isIn l G (S := S) r27h H.size) cs_RX6_134 hl.1 rfl rfl ⟨by decide, by decide⟩ (Nat.le_of_ble_eq_true rfl) ⟨Nat.zero_le _, Nat.zero_le _⟩ dX6_reading_27) (fun H locs hW => ?_)
      refine z_if_ne (tgt := 36) hx hb dX6_reading_30 (by decide) (fun b30 => ?_) (fun b30 => ?_)
      · have h := it_t b30 h
        refine lv_aload_n hx hb dX6_reading_36 rfl (lv_at hl 0 rfl) ?_
        refine gf_RX6_35 C hW dX6_reading_37 ?_
        refine lv_iload_n hx hb dX6_reading_40 rfl (lv_at hl 1 rfl) ?_
        refine lv_iload_n hx hb dX6_reading_41 rfl (lv_at hl 2 rfl) ?_
        refine lv_iload_n hx hb dX6_reading_42 rfl (lv_at hl 3 rfl) ?_
        obtain ⟨r43, r43h, h⟩ := bd_some h
        refine x_backI hW (x_runV (As := [.int a0, .int a1, .int a2]) (rest := []) C hW (c_X3_add l G r43h H.size) cv_RX6_218 rv_X3 hl.1 rfl rfl ⟨by decide, by decide⟩ (Nat.le_of_ble_eq_true rfl) ⟨Nat.zero_le _, Nat.zero_le _⟩ dX6_reading_43) (fun H locs hW => ?_)
        obtain rfl := Option.some.inj h
        exact K _ _ _ _ dX6_reading_46 hW
      · have h := it_f b30 h
        refine lv_bipush (v := (-2)) hx hb dX6_reading_33 (by decide) ?_
        obtain rfl := Option.some.inj h
        exact K _ _ _ _ dX6_reading_35 hW
    · have h := it_f b19 h
      refine lv_iconst (v := (-1)) hx hb dX6_reading_22 (by decide) ?_
      obtain rfl := Option.some.inj h
      exact K _ _ _ _ dX6_reading_23 hW
set_option maxRecDepth 100000 in
theorem c_X6_reading (l : Launch) (G : Geo) {S : St} {a0 : Int32} {a1 : Int32} {a2 : Int32} {o : Int32 × St} (h : f_X6_reading S a0 a1 a2 = some o) : MI 37 eX G l yX6_reading cX6_reading 4 (some .int) 1 [.ref (adr G 0), .int a0, .int a1, .int a2] S o.1 o.2 :=
  mI_of (by decide +kernel) (Nat.le_of_ble_eq_true rfl) (fun p e s m below meth c A H0 Q C K => w_f_X6_reading C h K)
def f_X6_shade (S : St) (a0 : Int32) (a1 : Int32) : Option (Int32 × St) :=
  bd (f_X1_hasLamp S a0) fun r5 => if r5 = true then (bd (f_X1_hasShade S a0 a1) fun r19 => if r19 = true then (ck (okx a0 5) <| ck (okx a0 5) <| some (S 23 (ix a0), up S 23 (ix a0) a1)) else (some ((-2 : Int32), S))) else (some ((-1 : Int32), S))
set_option maxHeartbeats 4000000 in
set_option maxRecDepth 100000 in
theorem w_f_X6_shade {G : Geo} {p : Program} {l : Launch} {e : Env} {s : State} {m : MethodId} {args : Array Value} {below : List Frame} {meth : Method} {c : Code} {A : Nat → Prop} {H0 : Heap} {Q : State → Prop} (C : Cx G RX6 cX6_shade 4 p s m args c) {S : St} {a0 : Int32} {a1 : Int32} {o : Int32 × St} (h : f_X6_shade S a0 a1 = some o) (K : KI 37 eX G A H0 cX6_shade p l e 2 s m args below meth c Q ((o).1) ((o).2)) : ∀ (H : Heap) (locs : List Loc) (ls : Array Slot), HX G A H0 S H locs → lv_has ls 4 [(0, .ref (adr G 0)), (1, .int a0), (2, .int a1)] → W p l e (rmK 2) s m args below meth c H locs 0 0 Q (F0 m 0 ls []) := by
  obtain ⟨hx, hb, -⟩ := id C
  intro H locs ls hW hl
  unfold f_X6_shade at h
  refine lv_aload_n hx hb dX6_shade_0 rfl (lv_at hl 0 rfl) ?_
  refine gf_RX6_14 C hW dX6_shade_1 ?_
  refine lv_iload_n hx hb dX6_shade_4 rfl (lv_at hl 1 rfl) ?_
  obtain ⟨r5, r5h, h⟩ := bd_some h
  refine x_backI hW (x_runV (As := [.int a0]) (rest := []) C hW (c_X1_hasLamp l G r5h H.size) cv_RX6_101 rv_X1 hl.1 rfl rfl ⟨by decide, by decide⟩ (Nat.le_of_ble_eq_true rfl) ⟨Nat.zero_le _, Nat.zero_le _⟩ dX6_shade_5) (fun H locs hW => ?_)
  refine z_if_ne (tgt := 13) hx hb dX6_shade_8 (by decide) (fun b8 => ?_) (fun b8 => ?_)
  · have h := it_t b8 h
    refine lv_aload_n hx hb dX6_shade_13 rfl (lv_at hl 0 rfl) ?_
    refine gf_RX6_14 C hW dX6_shade_14 ?_
    refine lv_iload_n hx hb dX6_shade_17 rfl (lv_at hl 1 rfl) ?_
    refine lv_iload_n hx hb dX6_shade_18 rfl (lv_at hl 2 rfl) ?_
    obtain ⟨r19, r19h, h⟩ := bd_some h
    refine x_backI hW (x_runV (As := [.int a0, .int a1]) (rest := []) C hW (c_X1_hasShade l G r19h H.size) cv_RX6_131 rv_X1 hl.1 rfl rfl ⟨by decide, by decide⟩ (Nat.le_of_ble_eq_true rfl) ⟨Nat.zero_le _, Nat.zero_le _⟩ dX6_shade_19) (fun H locs hW => ?_)
    refine z_if_ne (tgt := 28) hx hb dX6_shade_22 (by decide) (fun b22 => ?_) (fun b22 => ?_)
    · have h := it_t b22 h
      refine lv_aload_n hx hb dX6_shade_28 rfl (lv_at hl 0 rfl) ?_
      refine gf_RX6_14 C hW dX6_shade_29 ?_
      refine gf_RX6_107 C hW dX6_shade_32 ?_
      refine lv_iload_n hx hb dX6_shade_35 rfl (lv_at hl 1 rfl) ?_
      obtain ⟨g36, h⟩ := ck_some h
      refine x_iald C hW (k := 23) (n := 5) (by decide) (fun _ => rfl) g36 dX6_shade_36 ?_
      refine lv_istore_n (lv' := [(3, .int (S 23 (ix a0))), (0, .ref (adr G 0)), (1, .int a0), (2, .int a1)]) hx hb dX6_shade_37 rfl hl (by decide) rfl (fun ls hl => ?_)
      refine lv_aload_n hx hb dX6_shade_38 rfl (lv_at hl 1 rfl) ?_
      refine gf_RX6_14 C hW dX6_shade_39 ?_
      refine gf_RX6_107 C hW dX6_shade_42 ?_
      refine lv_iload_n hx hb dX6_shade_45 rfl (lv_at hl 2 rfl) ?_
      refine lv_iload_n hx hb dX6_shade_46 rfl (lv_at hl 3 rfl) ?_
      obtain ⟨g47, h⟩ := ck_some h
      refine x_iast C hW (k := 23) (n := 5) (by decide) (fun _ => rfl) g47 dX6_shade_47 (fun H locs hW => ?_)
      refine lv_iload_n hx hb dX6_shade_48 rfl (lv_at hl 0 rfl) ?_
      obtain rfl := Option.some.inj h
      exact K _ _ _ _ dX6_shade_49 hW
    · have h := it_f b22 h
      refine lv_bipush (v := (-2)) hx hb dX6_shade_25 (by decide) ?_
      obtain rfl := Option.some.inj h
      exact K _ _ _ _ dX6_shade_27 hW
  · have h := it_f b8 h
    refine lv_iconst (v := (-1)) hx hb dX6_shade_11 (by decide) ?_
    obtain rfl := Option.some.inj h
    exact K _ _ _ _ dX6_shade_12 hW
set_option maxRecDepth 100000 in
theorem c_X6_shade (l : Launch) (G : Geo) {S : St} {a0 : Int32} {a1 : Int32} {o : Int32 × St} (h : f_X6_shade S a0 a1 = some o) : MI 37 eX G l yX6_shade cX6_shade 4 (some .int) 2 [.ref (adr G 0), .int a0, .int a1] S o.1 o.2 :=
  mI_of (by decide +kernel) (Nat.le_of_ble_eq_true rfl) (fun p e s m below meth c A H0 Q C K => w_f_X6_shade C h K)
def f_X6_shadings (S : St) (a0 : Int32) : Option (Int32 × St) :=
  bd (f_X1_hasLamp S a0) fun r5 => if r5 = false then (some ((-1 : Int32), S)) else (bd (f_X6_fitting S 22 a0 ((2 : Int32)) ((5 : Int32))) fun r22 => some (r22.1, r22.2))
set_option maxHeartbeats 4000000 in
set_option maxRecDepth 100000 in
theorem w_f_X6_shadings {G : Geo} {p : Program} {l : Launch} {e : Env} {s : State} {m : MethodId} {args : Array Value} {below : List Frame} {meth : Method} {c : Code} {A : Nat → Prop} {H0 : Heap} {Q : State → Prop} (C : Cx G RX6 cX6_shadings 2 p s m args c) {S : St} {a0 : Int32} {o : Int32 × St} (h : f_X6_shadings S a0 = some o) (K : KI 37 eX G A H0 cX6_shadings p l e 5 s m args below meth c Q ((o).1) ((o).2)) : ∀ (H : Heap) (locs : List Loc) (ls : Array Slot), HX G A H0 S H locs → lv_has ls 2 [(0, .ref (adr G 0)), (1, .int a0)] → W p l e (rmK 5) s m args below meth c H locs 0 0 Q (F0 m 0 ls []) := by
  obtain ⟨hx, hb, -⟩ := id C
  intro H locs ls hW hl
  unfold f_X6_shadings at h
  refine lv_aload_n hx hb dX6_shadings_0 rfl (lv_at hl 0 rfl) ?_
  refine gf_RX6_14 C hW dX6_shadings_1 ?_
  refine lv_iload_n hx hb dX6_shadings_4 rfl (lv_at hl 1 rfl) ?_
  obtain ⟨r5, r5h, h⟩ := bd_some h
  refine x_backI hW (x_runV (As := [.int a0]) (rest := []) C hW (c_X1_hasLamp l G r5h H.size) cv_RX6_101 rv_X1 hl.1 rfl rfl ⟨by decide, by decide⟩ (Nat.le_of_ble_eq_true rfl) ⟨Nat.zero_le _, Nat.zero_le _⟩ dX6_shadings_5) (fun H locs hW => ?_)
  refine z_if_eq (tgt := 28) hx hb dX6_shadings_8 (by decide) (fun b8 => ?_) (fun b8 => ?_)
  · have h := it_t b8 h
    refine lv_iconst (v := (-1)) hx hb dX6_shadings_28 (by decide) ?_
    obtain rfl := Option.some.inj h
    exact K _ _ _ _ dX6_shadings_29 hW
  · have h := it_f b8 h
    refine lv_aload_n hx hb dX6_shadings_11 rfl (lv_at hl 0 rfl) ?_
    refine lv_aload_n hx hb dX6_shadings_12 rfl (lv_at hl 0 rfl) ?_
    refine gf_RX6_14 C hW dX6_shadings_13 ?_
    refine gf_RX6_104 C hW dX6_shadings_16 ?_
    refine lv_iload_n hx hb dX6_shadings_19 rfl (lv_at hl 1 rfl) ?_
    refine lv_iconst (v := 2) hx hb dX6_shadings_20 (by decide) ?_
    refine lv_iconst (v := 5) hx hb dX6_shadings_21 (by decide) ?_
    obtain ⟨r22, r22h, h⟩ := bd_some h
    refine x_backI hW (x_runV (As := [.ref (adr G 22), .int a0, .int ((2 : Int32)), .int ((5 : Int32))]) (rest := []) C hW (c_X6_fitting l G r22h H.size) cv_RX6_221 rv_X6 hl.1 rfl rfl ⟨by decide, by decide⟩ (Nat.le_of_ble_eq_true rfl) ⟨Nat.zero_le _, Nat.zero_le _⟩ dX6_shadings_22) (fun H locs hW => ?_)
    refine lv_goto (tgt := 29) hx hb dX6_shadings_25 (by decide) ?_
    obtain rfl := Option.some.inj h
    exact K _ _ _ _ dX6_shadings_29 hW
set_option maxRecDepth 100000 in
theorem c_X6_shadings (l : Launch) (G : Geo) {S : St} {a0 : Int32} {o : Int32 × St} (h : f_X6_shadings S a0 = some o) : MI 37 eX G l yX6_shadings cX6_shadings 2 (some .int) 5 [.ref (adr G 0), .int a0] S o.1 o.2 :=
  mI_of (by decide +kernel) (Nat.le_of_ble_eq_true rfl) (fun p e s m below meth c A H0 Q C K => w_f_X6_shadings C h K)
