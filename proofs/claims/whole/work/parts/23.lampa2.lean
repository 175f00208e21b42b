def f_X6_sheet (S : St) (a0 : Int32) (a1 : Int32) (a2 : Int32) : Option (Int32 × St) :=
  bd (f_X6_sheetAt (up S 0 8 ((0 : Int32))) a0) fun r7 => op r7 (some ((-1 : Int32), up S 0 8 ((0 : Int32)))) fun k7 => ck (shX k7) <| bd (f_X6_isLane a1) fun r20 => if r20 = false then (some ((-2 : Int32), up S 0 8 ((0 : Int32)))) else (if a2 ≤ ((60 : Int32)) then (if 0 ≤ a2 then (bd (f_X4_begin (up S 0 8 ((0 : Int32))) k7 a1 a2) fun r49 => some ((1 : Int32), r49)) else (bd (f_X6_faulted (up S 0 8 ((0 : Int32))) ((4 : Int32))) fun r41 => some (r41.1, r41.2))) else (some ((-2 : Int32), up S 0 8 ((0 : Int32)))))
set_option maxHeartbeats 4000000 in
set_option maxRecDepth 100000 in
theorem w_f_X6_sheet {G : Geo} {p : Program} {l : Launch} {e : Env} {s : State} {m : MethodId} {args : Array Value} {below : List Frame} {meth : Method} {c : Code} {A : Nat → Prop} {H0 : Heap} {Q : State → Prop} (C : Cx G RX6 cX6_sheet 5 p s m args c) {S : St} {a0 : Int32} {a1 : Int32} {a2 : Int32} {o : Int32 × St} (h : f_X6_sheet S a0 a1 a2 = some o) (K : KI 37 eX G A H0 cX6_sheet p l e 2 s m args below meth c Q ((o).1) ((o).2)) : ∀ (H : Heap) (locs : List Loc) (ls : Array Slot), HX G A H0 S H locs → lv_has ls 5 [(0, .ref (adr G 0)), (1, .int a0), (2, .int a1), (3, .int a2)] → W p l e (rmK 2) s m args below meth c H locs 0 0 Q (F0 m 0 ls []) := by
  obtain ⟨hx, hb, -⟩ := id C
  intro H locs ls hW hl
  unfold f_X6_sheet at h
  refine lv_aload_n hx hb dX6_sheet_0 rfl (lv_at hl 0 rfl) ?_
  refine lv_iconst (v := 0) hx hb dX6_sheet_1 (by decide) ?_
  refine pf_RX6_57 C hW dX6_sheet_2 (fun H locs hW => ?_)
  refine lv_aload_n hx hb dX6_sheet_5 rfl (lv_at hl 0 rfl) ?_
  refine lv_iload_n hx hb dX6_sheet_6 rfl (lv_at hl 1 rfl) ?_
  obtain ⟨r7, r7h, h⟩ := bd_some h
  refine x_backE hW (x_runV (As := [.int a0]) (rest := []) C hW (c_X6_sheetAt l G r7h H.size) cv_RX6_61 rv_X6 hl.1 rfl rfl ⟨by decide, by decide⟩ (Nat.le_of_ble_eq_true rfl) ⟨Nat.zero_le _, Nat.zero_le _⟩ dX6_sheet_7) (fun H locs hW => ?_)
  cases r7 with
  | none =>
    have h := op_n h
    refine lv_astoreN (lv' := [(4, .null), (0, .ref (adr G 0)), (1, .int a0), (2, .int a1), (3, .int a2)]) hx hb dX6_sheet_10 hl (by decide) rfl (fun ls hl => ?_)
    refine lv_aloadN hx hb dX6_sheet_12 (lv_at hl 0 rfl) ?_
    refine lv_ifnonnullN hx hb dX6_sheet_14 ?_
    refine lv_iconst (v := (-1)) hx hb dX6_sheet_17 (by decide) ?_
    obtain rfl := Option.some.inj h
    exact K _ _ _ _ dX6_sheet_18 hW
  | some k7 =>
    have h := op_sm h
    obtain ⟨k7h, h⟩ := ck_some h
    refine lv_astore (lv' := [(4, .ref (adr G k7)), (0, .ref (adr G 0)), (1, .int a0), (2, .int a1), (3, .int a2)]) hx hb dX6_sheet_10 hl (by decide) rfl (fun ls hl => ?_)
    refine lv_aload hx hb dX6_sheet_12 (lv_at hl 0 rfl) ?_
    refine lv_ifnonnull (tgt := 19) hx hb dX6_sheet_14 (by decide) ?_
    refine lv_iload_n hx hb dX6_sheet_19 rfl (lv_at hl 3 rfl) ?_
    obtain ⟨r20, r20h, h⟩ := bd_some h
    refine x_backI hW (x_runS (As := [.int a1]) (rest := []) C hW (c_X6_isLane l G (S := up S 0 8 ((0 : Int32))) r20h H.size) cs_RX6_65 hl.1 rfl rfl ⟨by decide, by decide⟩ (Nat.le_of_ble_eq_true rfl) ⟨Nat.zero_le _, Nat.zero_le _⟩ dX6_sheet_20) (fun H locs hW => ?_)
    refine z_if_eq (tgt := 32) hx hb dX6_sheet_23 (by decide) (fun b23 => ?_) (fun b23 => ?_)
    · have h := it_t b23 h
      refine lv_bipush (v := (-2)) hx hb dX6_sheet_32 (by decide) ?_
      obtain rfl := Option.some.inj h
      exact K _ _ _ _ dX6_sheet_34 hW
    · have h := it_f b23 h
      refine lv_iload_n hx hb dX6_sheet_26 rfl (lv_at hl 4 rfl) ?_
      refine lv_bipush (v := 60) hx hb dX6_sheet_27 (by decide) ?_
      refine lv_icmp_le (tgt := 35) hx hb dX6_sheet_29 (by decide) (fun b29 => ?_) (fun b29 => ?_)
      · have h := it_t b29 h
        refine lv_iload_n hx hb dX6_sheet_35 rfl (lv_at hl 4 rfl) ?_
        refine lv_if_ge (tgt := 45) hx hb dX6_sheet_36 (by decide) (fun b36 => ?_) (fun b36 => ?_)
        · have h := it_t b36 h
          refine lv_aload hx hb dX6_sheet_45 (lv_at hl 0 rfl) ?_
          refine lv_iload_n hx hb dX6_sheet_47 rfl (lv_at hl 3 rfl) ?_
          refine lv_iload_n hx hb dX6_sheet_48 rfl (lv_at hl 4 rfl) ?_
          obtain ⟨r49, r49h, h⟩ := bd_some h
          refine x_backV hW (x_runV (As := [.int a1, .int a2]) (rest := []) C hW (c_X4_begin l G r49h H.size) cv_RX6_243 (rv_X4 k7h) hl.1 rfl rfl ⟨by decide, by decide⟩ (Nat.le_of_ble_eq_true rfl) ⟨Nat.zero_le _, Nat.zero_le _⟩ dX6_sheet_49) (fun H locs hW => ?_)
          refine lv_iconst (v := 1) hx hb dX6_sheet_52 (by decide) ?_
          obtain rfl := Option.some.inj h
          exact K _ _ _ _ dX6_sheet_53 hW
        · have h := it_f b36 h
          refine lv_aload_n hx hb dX6_sheet_39 rfl (lv_at hl 1 rfl) ?_
          refine lv_iconst (v := 4) hx hb dX6_sheet_40 (by decide) ?_
          obtain ⟨r41, r41h, h⟩ := bd_some h
          refine x_backI hW (x_runV (As := [.int ((4 : Int32))]) (rest := []) C hW (c_X6_faulted l G r41h H.size) cv_RX6_77 rv_X6 hl.1 rfl rfl ⟨by decide, by decide⟩ (Nat.le_of_ble_eq_true rfl) ⟨Nat.zero_le _, Nat.zero_le _⟩ dX6_sheet_41) (fun H locs hW => ?_)
          obtain rfl := Option.some.inj h
          exact K _ _ _ _ dX6_sheet_44 hW
      · have h := it_f b29 h
        refine lv_bipush (v := (-2)) hx hb dX6_sheet_32 (by decide) ?_
        obtain rfl := Option.some.inj h
        exact K _ _ _ _ dX6_sheet_34 hW
set_option maxRecDepth 100000 in
theorem c_X6_sheet (l : Launch) (G : Geo) {S : St} {a0 : Int32} {a1 : Int32} {a2 : Int32} {o : Int32 × St} (h : f_X6_sheet S a0 a1 a2 = some o) : MI 37 eX G l yX6_sheet cX6_sheet 5 (some .int) 2 [.ref (adr G 0), .int a0, .int a1, .int a2] S o.1 o.2 :=
  mI_of (by decide +kernel) (Nat.le_of_ble_eq_true rfl) (fun p e s m below meth c A H0 Q C K => w_f_X6_sheet C h K)
def i_X6_spare_39 (S : St) (x1 : Int32) (x2 : Int32) (x3 : Int32) (x4 : Int32) : Option ((St × Int32 × Int32) ⊕ (St × Int32 × Int32)) :=
  if (S 1 3) ≤ x4 then (some (.inr (S, x3, x4))) else (bd (f_X2_manyBy S (x1 &&& ((shl32 ((1 : Int32)) x4) ^^^ ((-1 : Int32))))) fun r67 => if r67.1 = x2 then (some (.inl (r67.2, x3 ||| (shl32 ((1 : Int32)) x4), x4 + (1 : Int32)))) else (some (.inl (r67.2, x3, x4 + (1 : Int32)))))
set_option maxHeartbeats 4000000 in
set_option maxRecDepth 100000 in
theorem w_i_X6_spare_39 {G : Geo} {p : Program} {l : Launch} {e : Env} {s : State} {m : MethodId} {args : Array Value} {below : List Frame} {meth : Method} {c : Code} {A : Nat → Prop} {H0 : Heap} {Q : State → Prop} (C : Cx G RX6 cX6_spare 5 p s m args c) {S : St} {x1 : Int32} {x2 : Int32} {x3 : Int32} {x4 : Int32} {o : (St × Int32 × Int32) ⊕ (St × Int32 × Int32)} (h : i_X6_spare_39 S x1 x2 x3 x4 = some o) (Kn : ∀ q, o = .inl q → ∀ (H : Heap) (locs : List Loc) (ls : Array Slot), HX G A H0 q.1 H locs → lv_has ls 5 [(0, .ref (adr G 0)), (1, .int x1), (2, .int x2), (3, .int (q.2.1)), (4, .int (q.2.2))] → W p l e (rmK 6) s m args below meth c H locs 0 0 Q (F0 m 39 ls [])) (Kt : ∀ q, o = .inr q → ∀ (H : Heap) (locs : List Loc) (ls : Array Slot), HX G A H0 q.1 H locs → lv_has ls 5 [(3, .int (q.2.1))] → W p l e (rmK 6) s m args below meth c H locs 0 0 Q (F0 m 87 ls [])) : ∀ (H : Heap) (locs : List Loc) (ls : Array Slot), HX G A H0 S H locs → lv_has ls 5 [(0, .ref (adr G 0)), (1, .int x1), (2, .int x2), (3, .int x3), (4, .int x4)] → W p l e (rmK 6) s m args below meth c H locs 0 0 Q (F0 m 39 ls []) := by
  obtain ⟨hx, hb, -⟩ := id C
  intro H locs ls hW hl
  unfold i_X6_spare_39 at h
  refine lv_iload hx hb dX6_spare_39 (lv_at hl 4 rfl) ?_
  refine lv_aload_n hx hb dX6_spare_41 rfl (lv_at hl 0 rfl) ?_
  refine gf_RX6_14 C hW dX6_spare_42 ?_
  refine gf_RX6_98 C hW dX6_spare_45 ?_
  refine lv_icmp_ge (tgt := 87) hx hb dX6_spare_48 (by decide) (fun b48 => ?_) (fun b48 => ?_)
  · have h := it_t b48 h
    obtain rfl := Option.some.inj h
    exact Kt _ rfl _ _ _ hW (lv_sub hl [3] rfl)
  · have h := it_f b48 h
    refine lv_aload_n hx hb dX6_spare_51 rfl (lv_at hl 0 rfl) ?_
    refine gf_RX6_28 C hW dX6_spare_52 ?_
    refine lv_aload_n hx hb dX6_spare_55 rfl (lv_at hl 0 rfl) ?_
    refine gf_RX6_14 C hW dX6_spare_56 ?_
    refine lv_iload_n hx hb dX6_spare_59 rfl (lv_at hl 1 rfl) ?_
    refine lv_iconst (v := 1) hx hb dX6_spare_60 (by decide) ?_
    refine lv_iload hx hb dX6_spare_61 (lv_at hl 4 rfl) ?_
    refine lv_ishl hx hb dX6_spare_63 ?_
    refine lv_iconst (v := (-1)) hx hb dX6_spare_64 (by decide) ?_
    refine lv_ixor hx hb dX6_spare_65 ?_
    refine lv_iand hx hb dX6_spare_66 ?_
    obtain ⟨r67, r67h, h⟩ := bd_some h
    refine x_backI hW (x_runV (As := [.ref (adr G 1), .int (x1 &&& ((shl32 ((1 : Int32)) x4) ^^^ ((-1 : Int32))))]) (rest := []) C hW (c_X2_manyBy l G r67h H.size) cv_RX6_210 rv_X2 hl.1 rfl rfl ⟨by decide, by decide⟩ (Nat.le_of_ble_eq_true rfl) ⟨Nat.zero_le _, Nat.zero_le _⟩ dX6_spare_67) (fun H locs hW => ?_)
    refine lv_iload_n hx hb dX6_spare_70 rfl (lv_at hl 2 rfl) ?_
    refine lv_icmp_ne (tgt := 81) hx hb dX6_spare_71 (by decide) (fun b71 => ?_) (fun b71 => ?_)
    · have h := it_f b71 h
      refine lv_iinc (v := (x4 + (1 : Int32))) (lv' := [(4, .int (x4 + (1 : Int32))), (0, .ref (adr G 0)), (1, .int x1), (2, .int x2), (3, .int x3)]) hx hb dX6_spare_81 hl (k := 4) rfl rfl (by decide) rfl (fun ls hl => ?_)
      refine lv_goto (tgt := 39) hx hb dX6_spare_84 (by decide) ?_
      obtain rfl := Option.some.inj h
      exact Kn _ rfl _ _ _ hW (lv_sub hl [1, 2, 3, 4, 0] rfl)
    · have h := it_t b71 h
      refine lv_iload_n hx hb dX6_spare_74 rfl (lv_at hl 3 rfl) ?_
      refine lv_iconst (v := 1) hx hb dX6_spare_75 (by decide) ?_
      refine lv_iload hx hb dX6_spare_76 (lv_at hl 4 rfl) ?_
      refine lv_ishl hx hb dX6_spare_78 ?_
      refine lv_ior hx hb dX6_spare_79 ?_
      refine lv_istore_n (lv' := [(3, .int (x3 ||| (shl32 ((1 : Int32)) x4))), (0, .ref (adr G 0)), (1, .int x1), (2, .int x2), (4, .int x4)]) hx hb dX6_spare_80 rfl hl (by decide) rfl (fun ls hl => ?_)
      refine lv_iinc (v := (x4 + (1 : Int32))) (lv' := [(4, .int (x4 + (1 : Int32))), (3, .int (x3 ||| (shl32 ((1 : Int32)) x4))), (0, .ref (adr G 0)), (1, .int x1), (2, .int x2)]) hx hb dX6_spare_81 hl (k := 4) rfl rfl (by decide) rfl (fun ls hl => ?_)
      refine lv_goto (tgt := 39) hx hb dX6_spare_84 (by decide) ?_
      obtain rfl := Option.some.inj h
      exact Kn _ rfl _ _ _ hW (lv_sub hl [2, 3, 4, 1, 0] rfl)
set_option maxHeartbeats 4000000 in
set_option maxRecDepth 100000 in
theorem l_i_X6_spare_39 {G : Geo} {p : Program} {l : Launch} {e : Env} {s : State} {m : MethodId} {args : Array Value} {below : List Frame} {meth : Method} {c : Code} {A : Nat → Prop} {H0 : Heap} {Q : State → Prop} (C : Cx G RX6 cX6_spare 5 p s m args c) {x1 : Int32} {x2 : Int32} {n : Nat} {q0 : St × Int32 × Int32} {u : St × Int32 × Int32} (hq : iter (fun q : St × Int32 × Int32 => i_X6_spare_39 q.1 x1 x2 q.2.1 q.2.2) n q0 = some u) (Kt : (fun q : St × Int32 × Int32 => ∀ (H : Heap) (locs : List Loc) (ls : Array Slot), HX G A H0 q.1 H locs → lv_has ls 5 [(3, .int (q.2.1))] → W p l e (rmK 6) s m args below meth c H locs 0 0 Q (F0 m 87 ls [])) u) : (fun q : St × Int32 × Int32 => ∀ (H : Heap) (locs : List Loc) (ls : Array Slot), HX G A H0 q.1 H locs → lv_has ls 5 [(0, .ref (adr G 0)), (1, .int x1), (2, .int x2), (3, .int (q.2.1)), (4, .int (q.2.2))] → W p l e (rmK 6) s m args below meth c H locs 0 0 Q (F0 m 39 ls [])) q0 :=
  iter_W (P := fun q : St × Int32 × Int32 => ∀ (H : Heap) (locs : List Loc) (ls : Array Slot), HX G A H0 q.1 H locs → lv_has ls 5 [(0, .ref (adr G 0)), (1, .int x1), (2, .int x2), (3, .int (q.2.1)), (4, .int (q.2.2))] → W p l e (rmK 6) s m args below meth c H locs 0 0 Q (F0 m 39 ls [])) (K := fun q : St × Int32 × Int32 => ∀ (H : Heap) (locs : List Loc) (ls : Array Slot), HX G A H0 q.1 H locs → lv_has ls 5 [(3, .int (q.2.1))] → W p l e (rmK 6) s m args below meth c H locs 0 0 Q (F0 m 87 ls [])) (fun q o hit Kn Kt => w_i_X6_spare_39 C  hit Kn Kt) n q0 u hq Kt
def f_X6_spare (S : St) : Option (Int32 × St) :=
  bd (f_X1_isMissing S) fun r4 => if r4 = false then (bd (f_X1_allSwitches S) fun r17 => bd (f_X2_manyBy S r17) fun r30 => bd (iter (fun q => i_X6_spare_39 q.1 r17 r30.1 q.2.1 q.2.2) BIG (r30.2, (0 : Int32), (0 : Int32))) fun q39 => some (q39.2.1, q39.1)) else (some ((-3 : Int32), S))
set_option maxHeartbeats 4000000 in
set_option maxRecDepth 100000 in
theorem w_f_X6_spare {G : Geo} {p : Program} {l : Launch} {e : Env} {s : State} {m : MethodId} {args : Array Value} {below : List Frame} {meth : Method} {c : Code} {A : Nat → Prop} {H0 : Heap} {Q : State → Prop} (C : Cx G RX6 cX6_spare 5 p s m args c) {S : St}  {o : Int32 × St} (h : f_X6_spare S = some o) (K : KI 37 eX G A H0 cX6_spare p l e 6 s m args below meth c Q ((o).1) ((o).2)) : ∀ (H : Heap) (locs : List Loc) (ls : Array Slot), HX G A H0 S H locs → lv_has ls 5 [(0, .ref (adr G 0))] → W p l e (rmK 6) s m args below meth c H locs 0 0 Q (F0 m 0 ls []) := by
  obtain ⟨hx, hb, -⟩ := id C
  intro H locs ls hW hl
  unfold f_X6_spare at h
  refine lv_aload_n hx hb dX6_spare_0 rfl (lv_at hl 0 rfl) ?_
  refine gf_RX6_14 C hW dX6_spare_1 ?_
  obtain ⟨r4, r4h, h⟩ := bd_some h
  refine x_backI hW (x_runV (As := []) (rest := []) C hW (c_X1_isMissing l G r4h H.size) cv_RX6_156 rv_X1 hl.1 rfl rfl ⟨by decide, by decide⟩ (Nat.le_of_ble_eq_true rfl) ⟨Nat.zero_le _, Nat.zero_le _⟩ dX6_spare_4) (fun H locs hW => ?_)
  refine z_if_eq (tgt := 13) hx hb dX6_spare_7 (by decide) (fun b7 => ?_) (fun b7 => ?_)
  · have h := it_t b7 h
    refine lv_aload_n hx hb dX6_spare_13 rfl (lv_at hl 0 rfl) ?_
    refine gf_RX6_14 C hW dX6_spare_14 ?_
    obtain ⟨r17, r17h, h⟩ := bd_some h
    refine x_backI hW (x_runV (As := []) (rest := []) C hW (c_X1_allSwitches l G r17h H.size) cv_RX6_207 rv_X1 hl.1 rfl rfl ⟨by decide, by decide⟩ (Nat.le_of_ble_eq_true rfl) ⟨Nat.zero_le _, Nat.zero_le _⟩ dX6_spare_17) (fun H locs hW => ?_)
    refine lv_istore_n (lv' := [(1, .int r17), (0, .ref (adr G 0))]) hx hb dX6_spare_20 rfl hl (by decide) rfl (fun ls hl => ?_)
    refine lv_aload_n hx hb dX6_spare_21 rfl (lv_at hl 1 rfl) ?_
    refine gf_RX6_28 C hW dX6_spare_22 ?_
    refine lv_aload_n hx hb dX6_spare_25 rfl (lv_at hl 1 rfl) ?_
    refine gf_RX6_14 C hW dX6_spare_26 ?_
    refine lv_iload_n hx hb dX6_spare_29 rfl (lv_at hl 0 rfl) ?_
    obtain ⟨r30, r30h, h⟩ := bd_some h
    refine x_backI hW (x_runV (As := [.ref (adr G 1), .int r17]) (rest := []) C hW (c_X2_manyBy l G r30h H.size) cv_RX6_210 rv_X2 hl.1 rfl rfl ⟨by decide, by decide⟩ (Nat.le_of_ble_eq_true rfl) ⟨Nat.zero_le _, Nat.zero_le _⟩ dX6_spare_30) (fun H locs hW => ?_)
    refine lv_istore_n (lv' := [(2, .int (r30.1)), (1, .int r17), (0, .ref (adr G 0))]) hx hb dX6_spare_33 rfl hl (by decide) rfl (fun ls hl => ?_)
    refine lv_iconst (v := 0) hx hb dX6_spare_34 (by decide) ?_
    refine lv_istore_n (lv' := [(3, .int ((0 : Int32))), (2, .int (r30.1)), (1, .int r17), (0, .ref (adr G 0))]) hx hb dX6_spare_35 rfl hl (by decide) rfl (fun ls hl => ?_)
    refine lv_iconst (v := 0) hx hb dX6_spare_36 (by decide) ?_
    refine lv_istore (lv' := [(4, .int ((0 : Int32))), (3, .int ((0 : Int32))), (2, .int (r30.1)), (1, .int r17), (0, .ref (adr G 0))]) hx hb dX6_spare_37 hl (by decide) rfl (fun ls hl => ?_)
    obtain ⟨q39, q39h, h⟩ := bd_some h
    refine l_i_X6_spare_39 C  q39h ?_ _ _ _ hW (lv_sub hl [4, 3, 2, 1, 0] rfl)
    intro H locs ls hW hl
    refine lv_iload_n hx hb dX6_spare_87 rfl (lv_at hl 0 rfl) ?_
    obtain rfl := Option.some.inj h
    exact K _ _ _ _ dX6_spare_88 hW
  · have h := it_f b7 h
    refine lv_bipush (v := (-3)) hx hb dX6_spare_10 (by decide) ?_
    obtain rfl := Option.some.inj h
    exact K _ _ _ _ dX6_spare_12 hW
set_option maxRecDepth 100000 in
theorem c_X6_spare (l : Launch) (G : Geo) {S : St}  {o : Int32 × St} (h : f_X6_spare S = some o) : MI 37 eX G l yX6_spare cX6_spare 5 (some .int) 6 [.ref (adr G 0)] S o.1 o.2 :=
  mI_of (by decide +kernel) (Nat.le_of_ble_eq_true rfl) (fun p e s m below meth c A H0 Q C K => w_f_X6_spare C h K)
def f_X6_tell (S : St) (a0 : Int32) : Option (Int32 × St) :=
  bd (f_X1_hasSwitch S a0) fun r5 => if r5 = true then (ck (okx a0 5) <| if (S 24 (ix a0)) = 1 then (ck (okx a0 5) <| bd (f_X6_broadBody S (S 25 (ix a0))) fun r72 => some (r72.1, r72.2)) else if (S 24 (ix a0)) = 2 then (ck (okx a0 5) <| bd (f_X6_doubleBody S (S 25 (ix a0))) fun r58 => some (r58.1, r58.2)) else (ck (okx a0 5) <| bd (f_X6_plainBody S (S 25 (ix a0))) fun r86 => some (r86.1, r86.2))) else (some ((-1 : Int32), S))
set_option maxHeartbeats 4000000 in
set_option maxRecDepth 100000 in
theorem w_f_X6_tell {G : Geo} {p : Program} {l : Launch} {e : Env} {s : State} {m : MethodId} {args : Array Value} {below : List Frame} {meth : Method} {c : Code} {A : Nat → Prop} {H0 : Heap} {Q : State → Prop} (C : Cx G RX6 cX6_tell 2 p s m args c) {S : St} {a0 : Int32} {o : Int32 × St} (h : f_X6_tell S a0 = some o) (K : KI 37 eX G A H0 cX6_tell p l e 4 s m args below meth c Q ((o).1) ((o).2)) : ∀ (H : Heap) (locs : List Loc) (ls : Array Slot), HX G A H0 S H locs → lv_has ls 2 [(0, .ref (adr G 0)), (1, .int a0)] → W p l e (rmK 4) s m args below meth c H locs 0 0 Q (F0 m 0 ls []) := by
  obtain ⟨hx, hb, -⟩ := id C
  intro H locs ls hW hl
  unfold f_X6_tell at h
  refine lv_aload_n hx hb dX6_tell_0 rfl (lv_at hl 0 rfl) ?_
  refine gf_RX6_14 C hW dX6_tell_1 ?_
  refine lv_iload_n hx hb dX6_tell_4 rfl (lv_at hl 1 rfl) ?_
  obtain ⟨r5, r5h, h⟩ := bd_some h
  refine x_backI hW (x_runV (As := [.int a0]) (rest := []) C hW (c_X1_hasSwitch l G r5h H.size) cv_RX6_113 rv_X1 hl.1 rfl rfl ⟨by decide, by decide⟩ (Nat.le_of_ble_eq_true rfl) ⟨Nat.zero_le _, Nat.zero_le _⟩ dX6_tell_5) (fun H locs hW => ?_)
  refine z_if_ne (tgt := 13) hx hb dX6_tell_8 (by decide) (fun b8 => ?_) (fun b8 => ?_)
  · have h := it_t b8 h
    refine lv_aload_n hx hb dX6_tell_13 rfl (lv_at hl 0 rfl) ?_
    refine gf_RX6_14 C hW dX6_tell_14 ?_
    refine gf_RX6_116 C hW dX6_tell_17 ?_
    refine lv_iload_n hx hb dX6_tell_20 rfl (lv_at hl 1 rfl) ?_
    obtain ⟨g21, h⟩ := ck_some h
    refine x_iald C hW (k := 24) (n := 5) (by decide) (fun _ => rfl) g21 dX6_tell_21 ?_
    by_cases v22_0 : (S 24 (ix a0)) = 1
    · have h := it_t v22_0 h
      refine lv_lookup (off := 40) (tgt := 62) hx hb dX6_tell_22 (by decide) (by rw [v22_0]; rfl) (by decide) ?_
      refine lv_aload_n hx hb dX6_tell_62 rfl (lv_at hl 0 rfl) ?_
      refine lv_aload_n hx hb dX6_tell_63 rfl (lv_at hl 0 rfl) ?_
      refine gf_RX6_14 C hW dX6_tell_64 ?_
      refine gf_RX6_119 C hW dX6_tell_67 ?_
      refine lv_iload_n hx hb dX6_tell_70 rfl (lv_at hl 1 rfl) ?_
      obtain ⟨g71, h⟩ := ck_some h
      refine x_iald C hW (k := 25) (n := 5) (by decide) (fun _ => rfl) g71 dX6_tell_71 ?_
      obtain ⟨r72, r72h, h⟩ := bd_some h
      refine x_backI hW (x_runV (As := [.int (S 25 (ix a0))]) (rest := []) C hW (c_X6_broadBody l G r72h H.size) cv_RX6_265 rv_X6 hl.1 rfl rfl ⟨by decide, by decide⟩ (Nat.le_of_ble_eq_true rfl) ⟨Nat.zero_le _, Nat.zero_le _⟩ dX6_tell_72) (fun H locs hW => ?_)
      obtain rfl := Option.some.inj h
      exact K _ _ _ _ dX6_tell_75 hW
    · have h := it_f v22_0 h
      by_cases v22_1 : (S 24 (ix a0)) = 2
      · have h := it_t v22_1 h
        refine lv_lookup (off := 26) (tgt := 48) hx hb dX6_tell_22 (by decide) (by rw [v22_1]; rfl) (by decide) ?_
        refine lv_aload_n hx hb dX6_tell_48 rfl (lv_at hl 0 rfl) ?_
        refine lv_aload_n hx hb dX6_tell_49 rfl (lv_at hl 0 rfl) ?_
        refine gf_RX6_14 C hW dX6_tell_50 ?_
        refine gf_RX6_119 C hW dX6_tell_53 ?_
        refine lv_iload_n hx hb dX6_tell_56 rfl (lv_at hl 1 rfl) ?_
        obtain ⟨g57, h⟩ := ck_some h
        refine x_iald C hW (k := 25) (n := 5) (by decide) (fun _ => rfl) g57 dX6_tell_57 ?_
        obtain ⟨r58, r58h, h⟩ := bd_some h
        refine x_backI hW (x_runV (As := [.int (S 25 (ix a0))]) (rest := []) C hW (c_X6_doubleBody l G r58h H.size) cv_RX6_262 rv_X6 hl.1 rfl rfl ⟨by decide, by decide⟩ (Nat.le_of_ble_eq_true rfl) ⟨Nat.zero_le _, Nat.zero_le _⟩ dX6_tell_58) (fun H locs hW => ?_)
        obtain rfl := Option.some.inj h
        exact K _ _ _ _ dX6_tell_61 hW
      · have h := it_f v22_1 h
        have w22_0 := ne_i 1 1 (by decide) v22_0
        have w22_1 := ne_i 2 2 (by decide) v22_1
        refine lv_lookup (off := 54) (tgt := 76) hx hb dX6_tell_22 (by decide) (by simp [Op.lookupswitch.offset, w22_0, Ne.symm w22_0, w22_1, Ne.symm w22_1]) (by decide) ?_
        refine lv_aload_n hx hb dX6_tell_76 rfl (lv_at hl 0 rfl) ?_
        refine lv_aload_n hx hb dX6_tell_77 rfl (lv_at hl 0 rfl) ?_
        refine gf_RX6_14 C hW dX6_tell_78 ?_
        refine gf_RX6_119 C hW dX6_tell_81 ?_
        refine lv_iload_n hx hb dX6_tell_84 rfl (lv_at hl 1 rfl) ?_
        obtain ⟨g85, h⟩ := ck_some h
        refine x_iald C hW (k := 25) (n := 5) (by decide) (fun _ => rfl) g85 dX6_tell_85 ?_
        obtain ⟨r86, r86h, h⟩ := bd_some h
        refine x_backI hW (x_runV (As := [.int (S 25 (ix a0))]) (rest := []) C hW (c_X6_plainBody l G r86h H.size) cv_RX6_268 rv_X6 hl.1 rfl rfl ⟨by decide, by decide⟩ (Nat.le_of_ble_eq_true rfl) ⟨Nat.zero_le _, Nat.zero_le _⟩ dX6_tell_86) (fun H locs hW => ?_)
        obtain rfl := Option.some.inj h
        exact K _ _ _ _ dX6_tell_89 hW
  · have h := it_f b8 h
    refine lv_iconst (v := (-1)) hx hb dX6_tell_11 (by decide) ?_
    obtain rfl := Option.some.inj h
    exact K _ _ _ _ dX6_tell_12 hW
set_option maxRecDepth 100000 in
theorem c_X6_tell (l : Launch) (G : Geo) {S : St} {a0 : Int32} {o : Int32 × St} (h : f_X6_tell S a0 = some o) : MI 37 eX G l yX6_tell cX6_tell 2 (some .int) 4 [.ref (adr G 0), .int a0] S o.1 o.2 :=
  mI_of (by decide +kernel) (Nat.le_of_ble_eq_true rfl) (fun p e s m below meth c A H0 Q C K => w_f_X6_tell C h K)
def f_X6_trace (S : St) : Option (Int32) :=
  some (S 0 7)
set_option maxHeartbeats 4000000 in
set_option maxRecDepth 100000 in
theorem w_f_X6_trace {G : Geo} {p : Program} {l : Launch} {e : Env} {s : State} {m : MethodId} {args : Array Value} {below : List Frame} {meth : Method} {c : Code} {A : Nat → Prop} {H0 : Heap} {Q : State → Prop} (C : Cx G RX6 cX6_trace 1 p s m args c) {S : St}  {o : Int32} (h : f_X6_trace S = some o) (K : KI 37 eX G A H0 cX6_trace p l e 0 s m args below meth c Q o S) : ∀ (H : Heap) (locs : List Loc) (ls : Array Slot), HX G A H0 S H locs → lv_has ls 1 [(0, .ref (adr G 0))] → W p l e (rmK 0) s m args below meth c H locs 0 0 Q (F0 m 0 ls []) := by
  obtain ⟨hx, hb, -⟩ := id C
  intro H locs ls hW hl
  unfold f_X6_trace at h
  refine lv_aload_n hx hb dX6_trace_0 rfl (lv_at hl 0 rfl) ?_
  refine gf_RX6_281 C hW dX6_trace_1 ?_
  obtain rfl := Option.some.inj h
  exact K _ _ _ _ dX6_trace_4 hW
set_option maxRecDepth 100000 in
theorem c_X6_trace (l : Launch) (G : Geo) {S : St}  {o : Int32} (h : f_X6_trace S = some o) : MI 37 eX G l yX6_trace cX6_trace 1 (some .int) 0 [.ref (adr G 0)] S o S :=
  mI_of (by decide +kernel) (Nat.le_of_ble_eq_true rfl) (fun p e s m below meth c A H0 Q C K => w_f_X6_trace C h K)
def f_X6_turn (S : St) (a0 : Int32) (a1 : Int32) : Option (Int32 × St) :=
  bd (f_X1_hasSwitch S a0) fun r5 => if r5 = true then (bd (f_X6_isIn a1 ((1 : Int32)) ((4 : Int32))) fun r16 => if r16 = true then (ck (okx a0 5) <| ck (okx a0 5) <| bd (f_X2_forget (up S 25 (ix a0) a1)) fun r49 => some (S 25 (ix a0), r49)) else (some ((-2 : Int32), S))) else (some ((-1 : Int32), S))
set_option maxHeartbeats 4000000 in
set_option maxRecDepth 100000 in
theorem w_f_X6_turn {G : Geo} {p : Program} {l : Launch} {e : Env} {s : State} {m : MethodId} {args : Array Value} {below : List Frame} {meth : Method} {c : Code} {A : Nat → Prop} {H0 : Heap} {Q : State → Prop} (C : Cx G RX6 cX6_turn 4 p s m args c) {S : St} {a0 : Int32} {a1 : Int32} {o : Int32 × St} (h : f_X6_turn S a0 a1 = some o) (K : KI 37 eX G A H0 cX6_turn p l e 1 s m args below meth c Q ((o).1) ((o).2)) : ∀ (H : Heap) (locs : List Loc) (ls : Array Slot), HX G A H0 S H locs → lv_has ls 4 [(0, .ref (adr G 0)), (1, .int a0), (2, .int a1)] → W p l e (rmK 1) s m args below meth c H locs 0 0 Q (F0 m 0 ls []) := by
  obtain ⟨hx, hb, -⟩ := id C
  intro H locs ls hW hl
  unfold f_X6_turn at h
  refine lv_aload_n hx hb dX6_turn_0 rfl (lv_at hl 0 rfl) ?_
  refine gf_RX6_14 C hW dX6_turn_1 ?_
  refine lv_iload_n hx hb dX6_turn_4 rfl (lv_at hl 1 rfl) ?_
  obtain ⟨r5, r5h, h⟩ := bd_some h
  refine x_backI hW (x_runV (As := [.int a0]) (rest := []) C hW (c_X1_hasSwitch l G r5h H.size) cv_RX6_113 rv_X1 hl.1 rfl rfl ⟨by decide, by decide⟩ (Nat.le_of_ble_eq_true rfl) ⟨Nat.zero_le _, Nat.zero_le _⟩ dX6_turn_5) (fun H locs hW => ?_)
  refine z_if_ne (tgt := 13) hx hb dX6_turn_8 (by decide) (fun b8 => ?_) (fun b8 => ?_)
  · have h := it_t b8 h
    refine lv_iload_n hx hb dX6_turn_13 rfl (lv_at hl 2 rfl) ?_
    refine lv_iconst (v := 1) hx hb dX6_turn_14 (by decide) ?_
    refine lv_iconst (v := 4) hx hb dX6_turn_15 (by decide) ?_
    obtain ⟨r16, r16h, h⟩ := bd_some h
    refine x_backI hW (x_runS (As := [.int a1, .int ((1 : Int32)), .int ((4 : Int32))]) (rest := []) C hW (c_X6_isIn l G (S := S) r16h H.size) cs_RX6_134 hl.1 rfl rfl ⟨by decide, by decide⟩ (Nat.le_of_ble_eq_true rfl) ⟨Nat.zero_le _, Nat.zero_le _⟩ dX6_turn_16) (fun H locs hW => ?_)
    refine z_if_ne (tgt := 25) hx hb dX6_turn_19 (by decide) (fun b19 => ?_) (fun b19 => ?_)
    · have h := it_t b19 h
      refine lv_aload_n hx hb dX6_turn_25 rfl (lv_at hl 0 rfl) ?_
      refine gf_RX6_14 C hW dX6_turn_26 ?_
      refine gf_RX6_119 C hW dX6_turn_29 ?_
      refine lv_iload_n hx hb dX6_turn_32 rfl (lv_at hl 1 rfl) ?_
      obtain ⟨g33, h⟩ := ck_some h
      refine x_iald C hW (k := 25) (n := 5) (by decide) (fun _ => rfl) g33 dX6_turn_33 ?_
      refine lv_istore_n (lv' := [(3, .int (S 25 (ix a0))), (0, .ref (adr G 0)), (1, .int a0), (2, .int a1)]) hx hb dX6_turn_34 rfl hl (by decide) rfl (fun ls hl => ?_)
      refine lv_aload_n hx hb dX6_turn_35 rfl (lv_at hl 1 rfl) ?_
      refine gf_RX6_14 C hW dX6_turn_36 ?_
      refine gf_RX6_119 C hW dX6_turn_39 ?_
      refine lv_iload_n hx hb dX6_turn_42 rfl (lv_at hl 2 rfl) ?_
      refine lv_iload_n hx hb dX6_turn_43 rfl (lv_at hl 3 rfl) ?_
      obtain ⟨g44, h⟩ := ck_some h
      refine x_iast C hW (k := 25) (n := 5) (by decide) (fun _ => rfl) g44 dX6_turn_44 (fun H locs hW => ?_)
      refine lv_aload_n hx hb dX6_turn_45 rfl (lv_at hl 1 rfl) ?_
      refine gf_RX6_28 C hW dX6_turn_46 ?_
      obtain ⟨r49, r49h, h⟩ := bd_some h
      refine x_backV hW (x_runV (As := []) (rest := []) C hW (c_X2_forget l G r49h H.size) cv_RX6_95 rv_X2 hl.1 rfl rfl ⟨by decide, by decide⟩ (Nat.le_of_ble_eq_true rfl) ⟨Nat.zero_le _, Nat.zero_le _⟩ dX6_turn_49) (fun H locs hW => ?_)
      refine lv_iload_n hx hb dX6_turn_52 rfl (lv_at hl 0 rfl) ?_
      obtain rfl := Option.some.inj h
      exact K _ _ _ _ dX6_turn_53 hW
    · have h := it_f b19 h
      refine lv_bipush (v := (-2)) hx hb dX6_turn_22 (by decide) ?_
      obtain rfl := Option.some.inj h
      exact K _ _ _ _ dX6_turn_24 hW
  · have h := it_f b8 h
    refine lv_iconst (v := (-1)) hx hb dX6_turn_11 (by decide) ?_
    obtain rfl := Option.some.inj h
    exact K _ _ _ _ dX6_turn_12 hW
set_option maxRecDepth 100000 in
theorem c_X6_turn (l : Launch) (G : Geo) {S : St} {a0 : Int32} {a1 : Int32} {o : Int32 × St} (h : f_X6_turn S a0 a1 = some o) : MI 37 eX G l yX6_turn cX6_turn 4 (some .int) 1 [.ref (adr G 0), .int a0, .int a1] S o.1 o.2 :=
  mI_of (by decide +kernel) (Nat.le_of_ble_eq_true rfl) (fun p e s m below meth c A H0 Q C K => w_f_X6_turn C h K)
def f_X6_turnings (S : St) (a0 : Int32) : Option (Int32 × St) :=
  bd (f_X1_hasSwitch S a0) fun r5 => if r5 = false then (some ((-1 : Int32), S)) else (bd (f_X6_fitting S 25 a0 ((1 : Int32)) ((4 : Int32))) fun r22 => some (r22.1, r22.2))
set_option maxHeartbeats 4000000 in
set_option maxRecDepth 100000 in
theorem w_f_X6_turnings {G : Geo} {p : Program} {l : Launch} {e : Env} {s : State} {m : MethodId} {args : Array Value} {below : List Frame} {meth : Method} {c : Code} {A : Nat → Prop} {H0 : Heap} {Q : State → Prop} (C : Cx G RX6 cX6_turnings 2 p s m args c) {S : St} {a0 : Int32} {o : Int32 × St} (h : f_X6_turnings S a0 = some o) (K : KI 37 eX G A H0 cX6_turnings p l e 5 s m args below meth c Q ((o).1) ((o).2)) : ∀ (H : Heap) (locs : List Loc) (ls : Array Slot), HX G A H0 S H locs → lv_has ls 2 [(0, .ref (adr G 0)), (1, .int a0)] → W p l e (rmK 5) s m args below meth c H locs 0 0 Q (F0 m 0 ls []) := by
  obtain ⟨hx, hb, -⟩ := id C
  intro H locs ls hW hl
  unfold f_X6_turnings at h
  refine lv_aload_n hx hb dX6_turnings_0 rfl (lv_at hl 0 rfl) ?_
  refine gf_RX6_14 C hW dX6_turnings_1 ?_
  refine lv_iload_n hx hb dX6_turnings_4 rfl (lv_at hl 1 rfl) ?_
  obtain ⟨r5, r5h, h⟩ := bd_some h
  refine x_backI hW (x_runV (As := [.int a0]) (rest := []) C hW (c_X1_hasSwitch l G r5h H.size) cv_RX6_113 rv_X1 hl.1 rfl rfl ⟨by decide, by decide⟩ (Nat.le_of_ble_eq_true rfl) ⟨Nat.zero_le _, Nat.zero_le _⟩ dX6_turnings_5) (fun H locs hW => ?_)
  refine z_if_eq (tgt := 28) hx hb dX6_turnings_8 (by decide) (fun b8 => ?_) (fun b8 => ?_)
  · have h := it_t b8 h
    refine lv_iconst (v := (-1)) hx hb dX6_turnings_28 (by decide) ?_
    obtain rfl := Option.some.inj h
    exact K _ _ _ _ dX6_turnings_29 hW
  · have h := it_f b8 h
    refine lv_aload_n hx hb dX6_turnings_11 rfl (lv_at hl 0 rfl) ?_
    refine lv_aload_n hx hb dX6_turnings_12 rfl (lv_at hl 0 rfl) ?_
    refine gf_RX6_14 C hW dX6_turnings_13 ?_
    refine gf_RX6_119 C hW dX6_turnings_16 ?_
    refine lv_iload_n hx hb dX6_turnings_19 rfl (lv_at hl 1 rfl) ?_
    refine lv_iconst (v := 1) hx hb dX6_turnings_20 (by decide) ?_
    refine lv_iconst (v := 4) hx hb dX6_turnings_21 (by decide) ?_
    obtain ⟨r22, r22h, h⟩ := bd_some h
    refine x_backI hW (x_runV (As := [.ref (adr G 25), .int a0, .int ((1 : Int32)), .int ((4 : Int32))]) (rest := []) C hW (c_X6_fitting l G r22h H.size) cv_RX6_221 rv_X6 hl.1 rfl rfl ⟨by decide, by decide⟩ (Nat.le_of_ble_eq_true rfl) ⟨Nat.zero_le _, Nat.zero_le _⟩ dX6_turnings_22) (fun H locs hW => ?_)
    refine lv_goto (tgt := 29) hx hb dX6_turnings_25 (by decide) ?_
    obtain rfl := Option.some.inj h
    exact K _ _ _ _ dX6_turnings_29 hW
set_option maxRecDepth 100000 in
theorem c_X6_turnings (l : Launch) (G : Geo) {S : St} {a0 : Int32} {o : Int32 × St} (h : f_X6_turnings S a0 = some o) : MI 37 eX G l yX6_turnings cX6_turnings 2 (some .int) 5 [.ref (adr G 0), .int a0] S o.1 o.2 :=
  mI_of (by decide +kernel) (Nat.le_of_ble_eq_true rfl) (fun p e s m below meth c A H0 Q C K => w_f_X6_turnings C h K)
def f_X6_wire (S : St) (a0 : Int32) (a1 : Int32) : Option (Int32 × St) :=
  bd (f_X1_hasSwitch S a0) fun r5 => if r5 = false then (some ((-1 : Int32), S)) else (bd (f_X1_hasLamp S a1) fun r16 => if r16 = true then (ck (okx a0 5) <| ck (okx a0 5) <| bd (f_X2_forget (up S 26 (ix a0) ((S 26 (ix a0)) ^^^ (shl32 ((1 : Int32)) a1)))) fun r43 => bd (f_X1_isWired r43 a0 a1) fun r52 => if r52 = false then (some ((0 : Int32), r43)) else (some ((1 : Int32), r43))) else (some ((-1 : Int32), S)))
set_option maxHeartbeats 4000000 in
set_option maxRecDepth 100000 in
theorem w_f_X6_wire {G : Geo} {p : Program} {l : Launch} {e : Env} {s : State} {m : MethodId} {args : Array Value} {below : List Frame} {meth : Method} {c : Code} {A : Nat → Prop} {H0 : Heap} {Q : State → Prop} (C : Cx G RX6 cX6_wire 3 p s m args c) {S : St} {a0 : Int32} {a1 : Int32} {o : Int32 × St} (h : f_X6_wire S a0 a1 = some o) (K : KI 37 eX G A H0 cX6_wire p l e 1 s m args below meth c Q ((o).1) ((o).2)) : ∀ (H : Heap) (locs : List Loc) (ls : Array Slot), HX G A H0 S H locs → lv_has ls 3 [(0, .ref (adr G 0)), (1, .int a0), (2, .int a1)] → W p l e (rmK 1) s m args below meth c H locs 0 0 Q (F0 m 0 ls []) := by
  obtain ⟨hx, hb, -⟩ := id C
  intro H locs ls hW hl
  unfold f_X6_wire at h
  refine lv_aload_n hx hb dX6_wire_0 rfl (lv_at hl 0 rfl) ?_
  refine gf_RX6_14 C hW dX6_wire_1 ?_
  refine lv_iload_n hx hb dX6_wire_4 rfl (lv_at hl 1 rfl) ?_
  obtain ⟨r5, r5h, h⟩ := bd_some h
  refine x_backI hW (x_runV (As := [.int a0]) (rest := []) C hW (c_X1_hasSwitch l G r5h H.size) cv_RX6_113 rv_X1 hl.1 rfl rfl ⟨by decide, by decide⟩ (Nat.le_of_ble_eq_true rfl) ⟨Nat.zero_le _, Nat.zero_le _⟩ dX6_wire_5) (fun H locs hW => ?_)
  refine z_if_eq (tgt := 22) hx hb dX6_wire_8 (by decide) (fun b8 => ?_) (fun b8 => ?_)
  · have h := it_t b8 h
    refine lv_iconst (v := (-1)) hx hb dX6_wire_22 (by decide) ?_
    obtain rfl := Option.some.inj h
    exact K _ _ _ _ dX6_wire_23 hW
  · have h := it_f b8 h
    refine lv_aload_n hx hb dX6_wire_11 rfl (lv_at hl 0 rfl) ?_
    refine gf_RX6_14 C hW dX6_wire_12 ?_
    refine lv_iload_n hx hb dX6_wire_15 rfl (lv_at hl 2 rfl) ?_
    obtain ⟨r16, r16h, h⟩ := bd_some h
    refine x_backI hW (x_runV (As := [.int a1]) (rest := []) C hW (c_X1_hasLamp l G r16h H.size) cv_RX6_101 rv_X1 hl.1 rfl rfl ⟨by decide, by decide⟩ (Nat.le_of_ble_eq_true rfl) ⟨Nat.zero_le _, Nat.zero_le _⟩ dX6_wire_16) (fun H locs hW => ?_)
    refine z_if_ne (tgt := 24) hx hb dX6_wire_19 (by decide) (fun b19 => ?_) (fun b19 => ?_)
    · have h := it_t b19 h
      refine lv_aload_n hx hb dX6_wire_24 rfl (lv_at hl 0 rfl) ?_
      refine gf_RX6_14 C hW dX6_wire_25 ?_
      refine gf_RX6_125 C hW dX6_wire_28 ?_
      refine lv_iload_n hx hb dX6_wire_31 rfl (lv_at hl 1 rfl) ?_
      refine lv_dup2_11 hx hb dX6_wire_32 rfl rfl ?_
      obtain ⟨g33, h⟩ := ck_some h
      refine x_iald C hW (k := 26) (n := 5) (by decide) (fun _ => rfl) g33 dX6_wire_33 ?_
      refine lv_iconst (v := 1) hx hb dX6_wire_34 (by decide) ?_
      refine lv_iload_n hx hb dX6_wire_35 rfl (lv_at hl 2 rfl) ?_
      refine lv_ishl hx hb dX6_wire_36 ?_
      refine lv_ixor hx hb dX6_wire_37 ?_
      obtain ⟨g38, h⟩ := ck_some h
      refine x_iast C hW (k := 26) (n := 5) (by decide) (fun _ => rfl) g38 dX6_wire_38 (fun H locs hW => ?_)
      refine lv_aload_n hx hb dX6_wire_39 rfl (lv_at hl 0 rfl) ?_
      refine gf_RX6_28 C hW dX6_wire_40 ?_
      obtain ⟨r43, r43h, h⟩ := bd_some h
      refine x_backV hW (x_runV (As := []) (rest := []) C hW (c_X2_forget l G r43h H.size) cv_RX6_95 rv_X2 hl.1 rfl rfl ⟨by decide, by decide⟩ (Nat.le_of_ble_eq_true rfl) ⟨Nat.zero_le _, Nat.zero_le _⟩ dX6_wire_43) (fun H locs hW => ?_)
      refine lv_aload_n hx hb dX6_wire_46 rfl (lv_at hl 0 rfl) ?_
      refine gf_RX6_14 C hW dX6_wire_47 ?_
      refine lv_iload_n hx hb dX6_wire_50 rfl (lv_at hl 1 rfl) ?_
      refine lv_iload_n hx hb dX6_wire_51 rfl (lv_at hl 2 rfl) ?_
      obtain ⟨r52, r52h, h⟩ := bd_some h
      refine x_backI hW (x_runV (As := [.int a0, .int a1]) (rest := []) C hW (c_X1_isWired l G r52h H.size) cv_RX6_138 rv_X1 hl.1 rfl rfl ⟨by decide, by decide⟩ (Nat.le_of_ble_eq_true rfl) ⟨Nat.zero_le _, Nat.zero_le _⟩ dX6_wire_52) (fun H locs hW => ?_)
      refine z_if_eq (tgt := 62) hx hb dX6_wire_55 (by decide) (fun b55 => ?_) (fun b55 => ?_)
      · have h := it_t b55 h
        refine lv_iconst (v := 0) hx hb dX6_wire_62 (by decide) ?_
        obtain rfl := Option.some.inj h
        exact K _ _ _ _ dX6_wire_63 hW
      · have h := it_f b55 h
        refine lv_iconst (v := 1) hx hb dX6_wire_58 (by decide) ?_
        refine lv_goto (tgt := 63) hx hb dX6_wire_59 (by decide) ?_
        obtain rfl := Option.some.inj h
        exact K _ _ _ _ dX6_wire_63 hW
    · have h := it_f b19 h
      refine lv_iconst (v := (-1)) hx hb dX6_wire_22 (by decide) ?_
      obtain rfl := Option.some.inj h
      exact K _ _ _ _ dX6_wire_23 hW
set_option maxRecDepth 100000 in
theorem c_X6_wire (l : Launch) (G : Geo) {S : St} {a0 : Int32} {a1 : Int32} {o : Int32 × St} (h : f_X6_wire S a0 a1 = some o) : MI 37 eX G l yX6_wire cX6_wire 3 (some .int) 1 [.ref (adr G 0), .int a0, .int a1] S o.1 o.2 :=
  mI_of (by decide +kernel) (Nat.le_of_ble_eq_true rfl) (fun p e s m below meth c A H0 Q C K => w_f_X6_wire C h K)
