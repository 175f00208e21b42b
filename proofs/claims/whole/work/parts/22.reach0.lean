def f_X2_fewestTo (S : St) (a0 : Int32) : Option (Int32) :=
  if a0 < 0 then (some ((-9 : Int32))) else (if ((3125 : Int32)) ≤ a0 then (some ((-9 : Int32))) else (ck (okx a0 3125) <| some (S 31 (ix a0))))
set_option maxHeartbeats 4000000 in
set_option maxRecDepth 100000 in
theorem w_f_X2_fewestTo {G : Geo} {p : Program} {l : Launch} {e : Env} {s : State} {m : MethodId} {args : Array Value} {below : List Frame} {meth : Method} {c : Code} {A : Nat → Prop} {H0 : Heap} {Q : State → Prop} (C : Cx G RX2 cX2_fewestTo 2 p s m args c) {S : St} {a0 : Int32} {o : Int32} (h : f_X2_fewestTo S a0 = some o) (K : KI 37 eX G A H0 cX2_fewestTo p l e 0 s m args below meth c Q o S) : ∀ (H : Heap) (locs : List Loc) (ls : Array Slot), HX G A H0 S H locs → lv_has ls 2 [(0, .ref (adr G 3)), (1, .int a0)] → W p l e (rmK 0) s m args below meth c H locs 0 0 Q (F0 m 0 ls []) := by
  obtain ⟨hx, hb, -⟩ := id C
  intro H locs ls hW hl
  unfold f_X2_fewestTo at h
  refine lv_iload_n hx hb dX2_fewestTo_0 rfl (lv_at hl 1 rfl) ?_
  refine lv_if_lt (tgt := 20) hx hb dX2_fewestTo_1 (by decide) (fun b1 => ?_) (fun b1 => ?_)
  · have h := it_t b1 h
    refine lv_bipush (v := (-9)) hx hb dX2_fewestTo_20 (by decide) ?_
    obtain rfl := Option.some.inj h
    exact K _ _ _ _ dX2_fewestTo_22 hW
  · have h := it_f b1 h
    refine lv_iload_n hx hb dX2_fewestTo_4 rfl (lv_at hl 1 rfl) ?_
    refine lv_sipush (v := 3125) hx hb dX2_fewestTo_5 (by decide) ?_
    refine lv_icmp_ge (tgt := 20) hx hb dX2_fewestTo_8 (by decide) (fun b8 => ?_) (fun b8 => ?_)
    · have h := it_t b8 h
      refine lv_bipush (v := (-9)) hx hb dX2_fewestTo_20 (by decide) ?_
      obtain rfl := Option.some.inj h
      exact K _ _ _ _ dX2_fewestTo_22 hW
    · have h := it_f b8 h
      refine lv_aload_n hx hb dX2_fewestTo_11 rfl (lv_at hl 0 rfl) ?_
      refine gf_RX2_23 C hW dX2_fewestTo_12 ?_
      refine lv_iload_n hx hb dX2_fewestTo_15 rfl (lv_at hl 1 rfl) ?_
      obtain ⟨g16, h⟩ := ck_some h
      refine x_iald C hW (k := 31) (n := 3125) (by decide) (fun _ => rfl) g16 dX2_fewestTo_16 ?_
      refine lv_goto (tgt := 22) hx hb dX2_fewestTo_17 (by decide) ?_
      obtain rfl := Option.some.inj h
      exact K _ _ _ _ dX2_fewestTo_22 hW
set_option maxRecDepth 100000 in
theorem c_X2_fewestTo (l : Launch) (G : Geo) {S : St} {a0 : Int32} {o : Int32} (h : f_X2_fewestTo S a0 = some o) : MI 37 eX G l yX2_fewestTo cX2_fewestTo 2 (some .int) 0 [.ref (adr G 3), .int a0] S o S :=
  mI_of (by decide +kernel) (Nat.le_of_ble_eq_true rfl) (fun p e s m below meth c A H0 Q C K => w_f_X2_fewestTo C h K)
def j_X2_numberBy_80 (S : St) (x2 : Int32) (x3 : Int32) (x4 : Int32) (x5 : Int32) (x6 : Int32) : Option ((Int32 × Int32) ⊕ (Int32 × Int32)) :=
  ck (okx x5 5) <| some (.inl (x4 + (x6 * (S 29 (ix x5))), x5 + (1 : Int32)))
set_option maxHeartbeats 4000000 in
set_option maxRecDepth 100000 in
theorem w_j_X2_numberBy_80 {G : Geo} {p : Program} {l : Launch} {e : Env} {s : State} {m : MethodId} {args : Array Value} {below : List Frame} {meth : Method} {c : Code} {A : Nat → Prop} {H0 : Heap} {Q : State → Prop} (C : Cx G RX2 cX2_numberBy 7 p s m args c) {S : St} {x2 : Int32} {x3 : Int32} {x4 : Int32} {x5 : Int32} {x6 : Int32} {o : (Int32 × Int32) ⊕ (Int32 × Int32)} (h : j_X2_numberBy_80 S x2 x3 x4 x5 x6 = some o) (Kn : ∀ q, o = .inl q → ∀ (H : Heap) (locs : List Loc) (ls : Array Slot), HX G A H0 S H locs → lv_has ls 7 [(0, .ref (adr G 3)), (1, .ref (adr G 1)), (2, .int x2), (3, .int x3), (4, .int (q.1)), (5, .int (q.2))] → W p l e (rmK 0) s m args below meth c H locs 0 0 Q (F0 m 6 ls [])) (Kt : ∀ q, o = .inr q → ∀ (H : Heap) (locs : List Loc) (ls : Array Slot), HX G A H0 S H locs → lv_has ls 7 [(4, .int (q.1))] → W p l e (rmK 0) s m args below meth c H locs 0 0 Q (F0 m 101 ls [])) : ∀ (H : Heap) (locs : List Loc) (ls : Array Slot), HX G A H0 S H locs → lv_has ls 7 [(0, .ref (adr G 3)), (1, .ref (adr G 1)), (2, .int x2), (3, .int x3), (4, .int x4), (5, .int x5), (6, .int x6)] → W p l e (rmK 0) s m args below meth c H locs 0 0 Q (F0 m 80 ls []) := by
  obtain ⟨hx, hb, -⟩ := id C
  intro H locs ls hW hl
  unfold j_X2_numberBy_80 at h
  refine lv_iload hx hb dX2_numberBy_80 (lv_at hl 4 rfl) ?_
  refine lv_iload hx hb dX2_numberBy_82 (lv_at hl 6 rfl) ?_
  refine lv_aload_n hx hb dX2_numberBy_84 rfl (lv_at hl 0 rfl) ?_
  refine gf_RX2_9 C hW dX2_numberBy_85 ?_
  refine lv_iload hx hb dX2_numberBy_88 (lv_at hl 5 rfl) ?_
  obtain ⟨g90, h⟩ := ck_some h
  refine x_iald C hW (k := 29) (n := 5) (by decide) (fun _ => rfl) g90 dX2_numberBy_90 ?_
  refine lv_imul hx hb dX2_numberBy_91 ?_
  refine lv_iadd hx hb dX2_numberBy_92 ?_
  refine lv_istore (lv' := [(4, .int (x4 + (x6 * (S 29 (ix x5))))), (0, .ref (adr G 3)), (1, .ref (adr G 1)), (2, .int x2), (3, .int x3), (5, .int x5), (6, .int x6)]) hx hb dX2_numberBy_93 hl (by decide) rfl (fun ls hl => ?_)
  refine lv_iinc (v := (x5 + (1 : Int32))) (lv' := [(5, .int (x5 + (1 : Int32))), (4, .int (x4 + (x6 * (S 29 (ix x5))))), (0, .ref (adr G 3)), (1, .ref (adr G 1)), (2, .int x2), (3, .int x3), (6, .int x6)]) hx hb dX2_numberBy_95 hl (k := 5) rfl rfl (by decide) rfl (fun ls hl => ?_)
  refine lv_goto (tgt := 6) hx hb dX2_numberBy_98 (by decide) ?_
  obtain rfl := Option.some.inj h
  exact Kn _ rfl _ _ _ hW (lv_sub hl [2, 3, 4, 5, 1, 0] rfl)
def i_X2_numberBy_6 (S : St) (x2 : Int32) (x3 : Int32) (x4 : Int32) (x5 : Int32) : Option ((Int32 × Int32) ⊕ (Int32 × Int32)) :=
  if (S 1 0) ≤ x5 then (some (.inr (x4, x5))) else (ck (okx x5 5) <| ck (okx x2 5) <| ck (okx x5 5) <| if 0 ≤ ((S 30 (ix x5)) + (x3 * (S (16 + ix x2) (ix x5)))) then (ck (okx x5 5) <| if ((S 30 (ix x5)) + (x3 * (S (16 + ix x2) (ix x5)))) < (S 22 (ix x5)) then (j_X2_numberBy_80 S x2 x3 x4 x5 ((S 30 (ix x5)) + (x3 * (S (16 + ix x2) (ix x5))))) else (ck (okx x5 5) <| j_X2_numberBy_80 S x2 x3 x4 x5 (((S 30 (ix x5)) + (x3 * (S (16 + ix x2) (ix x5)))) - (S 22 (ix x5))))) else (ck (okx x5 5) <| j_X2_numberBy_80 S x2 x3 x4 x5 (((S 30 (ix x5)) + (x3 * (S (16 + ix x2) (ix x5)))) + (S 22 (ix x5)))))
set_option maxHeartbeats 4000000 in
set_option maxRecDepth 100000 in
theorem w_i_X2_numberBy_6 {G : Geo} {p : Program} {l : Launch} {e : Env} {s : State} {m : MethodId} {args : Array Value} {below : List Frame} {meth : Method} {c : Code} {A : Nat → Prop} {H0 : Heap} {Q : State → Prop} (C : Cx G RX2 cX2_numberBy 7 p s m args c) {S : St} {x2 : Int32} {x3 : Int32} {x4 : Int32} {x5 : Int32} {o : (Int32 × Int32) ⊕ (Int32 × Int32)} (h : i_X2_numberBy_6 S x2 x3 x4 x5 = some o) (Kn : ∀ q, o = .inl q → ∀ (H : Heap) (locs : List Loc) (ls : Array Slot), HX G A H0 S H locs → lv_has ls 7 [(0, .ref (adr G 3)), (1, .ref (adr G 1)), (2, .int x2), (3, .int x3), (4, .int (q.1)), (5, .int (q.2))] → W p l e (rmK 0) s m args below meth c H locs 0 0 Q (F0 m 6 ls [])) (Kt : ∀ q, o = .inr q → ∀ (H : Heap) (locs : List Loc) (ls : Array Slot), HX G A H0 S H locs → lv_has ls 7 [(4, .int (q.1))] → W p l e (rmK 0) s m args below meth c H locs 0 0 Q (F0 m 101 ls [])) : ∀ (H : Heap) (locs : List Loc) (ls : Array Slot), HX G A H0 S H locs → lv_has ls 7 [(0, .ref (adr G 3)), (1, .ref (adr G 1)), (2, .int x2), (3, .int x3), (4, .int x4), (5, .int x5)] → W p l e (rmK 0) s m args below meth c H locs 0 0 Q (F0 m 6 ls []) := by
  obtain ⟨hx, hb, -⟩ := id C
  intro H locs ls hW hl
  unfold i_X2_numberBy_6 at h
  refine lv_iload hx hb dX2_numberBy_6 (lv_at hl 5 rfl) ?_
  refine lv_aload_n hx hb dX2_numberBy_8 rfl (lv_at hl 1 rfl) ?_
  refine gf_RX2_76 C hW dX2_numberBy_9 ?_
  refine lv_icmp_ge (tgt := 101) hx hb dX2_numberBy_12 (by decide) (fun b12 => ?_) (fun b12 => ?_)
  · have h := it_t b12 h
    obtain rfl := Option.some.inj h
    exact Kt _ rfl _ _ _ hW (lv_sub hl [4] rfl)
  · have h := it_f b12 h
    refine lv_aload_n hx hb dX2_numberBy_15 rfl (lv_at hl 0 rfl) ?_
    refine gf_RX2_20 C hW dX2_numberBy_16 ?_
    refine lv_iload hx hb dX2_numberBy_19 (lv_at hl 5 rfl) ?_
    obtain ⟨g21, h⟩ := ck_some h
    refine x_iald C hW (k := 30) (n := 5) (by decide) (fun _ => rfl) g21 dX2_numberBy_21 ?_
    refine lv_iload_n hx hb dX2_numberBy_22 rfl (lv_at hl 3 rfl) ?_
    refine lv_aload_n hx hb dX2_numberBy_23 rfl (lv_at hl 0 rfl) ?_
    refine gf_RX2_17 C hW dX2_numberBy_24 ?_
    refine lv_iload_n hx hb dX2_numberBy_27 rfl (lv_at hl 2 rfl) ?_
    obtain ⟨g28, h⟩ := ck_some h
    refine x_steps C hW g28 dX2_numberBy_28 ?_
    refine lv_iload hx hb dX2_numberBy_29 (lv_at hl 5 rfl) ?_
    obtain ⟨g31, h⟩ := ck_some h
    refine x_iald C hW (k := 16 + ix x2) (n := 5) (st_lt g28) (eX_step g28) g31 dX2_numberBy_31 ?_
    refine lv_imul hx hb dX2_numberBy_32 ?_
    refine lv_iadd hx hb dX2_numberBy_33 ?_
    refine lv_istore (lv' := [(6, .int ((S 30 (ix x5)) + (x3 * (S (16 + ix x2) (ix x5))))), (0, .ref (adr G 3)), (1, .ref (adr G 1)), (2, .int x2), (3, .int x3), (4, .int x4), (5, .int x5)]) hx hb dX2_numberBy_34 hl (by decide) rfl (fun ls hl => ?_)
    refine lv_iload hx hb dX2_numberBy_36 (lv_at hl 0 rfl) ?_
    refine lv_if_ge (tgt := 56) hx hb dX2_numberBy_38 (by decide) (fun b38 => ?_) (fun b38 => ?_)
    · have h := it_t b38 h
      refine lv_iload hx hb dX2_numberBy_56 (lv_at hl 0 rfl) ?_
      refine lv_aload_n hx hb dX2_numberBy_58 rfl (lv_at hl 2 rfl) ?_
      refine gf_RX2_79 C hW dX2_numberBy_59 ?_
      refine lv_iload hx hb dX2_numberBy_62 (lv_at hl 6 rfl) ?_
      obtain ⟨g64, h⟩ := ck_some h
      refine x_iald C hW (k := 22) (n := 5) (by decide) (fun _ => rfl) g64 dX2_numberBy_64 ?_
      refine lv_icmp_lt (tgt := 80) hx hb dX2_numberBy_65 (by decide) (fun b65 => ?_) (fun b65 => ?_)
      · have h := it_t b65 h
        exact w_j_X2_numberBy_80 C  h Kn Kt _ _ _ hW (lv_sub hl [1, 2, 3, 4, 5, 6, 0] rfl)
      · have h := it_f b65 h
        refine lv_iload hx hb dX2_numberBy_68 (lv_at hl 0 rfl) ?_
        refine lv_aload_n hx hb dX2_numberBy_70 rfl (lv_at hl 2 rfl) ?_
        refine gf_RX2_79 C hW dX2_numberBy_71 ?_
        refine lv_iload hx hb dX2_numberBy_74 (lv_at hl 6 rfl) ?_
        obtain ⟨g76, h⟩ := ck_some h
        refine x_iald C hW (k := 22) (n := 5) (by decide) (fun _ => rfl) g76 dX2_numberBy_76 ?_
        refine lv_isub hx hb dX2_numberBy_77 ?_
        refine lv_istore (lv' := [(6, .int (((S 30 (ix x5)) + (x3 * (S (16 + ix x2) (ix x5)))) - (S 22 (ix x5)))), (0, .ref (adr G 3)), (1, .ref (adr G 1)), (2, .int x2), (3, .int x3), (4, .int x4), (5, .int x5)]) hx hb dX2_numberBy_78 hl (by decide) rfl (fun ls hl => ?_)
        exact w_j_X2_numberBy_80 C  h Kn Kt _ _ _ hW (lv_sub hl [1, 2, 3, 4, 5, 6, 0] rfl)
    · have h := it_f b38 h
      refine lv_iload hx hb dX2_numberBy_41 (lv_at hl 0 rfl) ?_
      refine lv_aload_n hx hb dX2_numberBy_43 rfl (lv_at hl 2 rfl) ?_
      refine gf_RX2_79 C hW dX2_numberBy_44 ?_
      refine lv_iload hx hb dX2_numberBy_47 (lv_at hl 6 rfl) ?_
      obtain ⟨g49, h⟩ := ck_some h
      refine x_iald C hW (k := 22) (n := 5) (by decide) (fun _ => rfl) g49 dX2_numberBy_49 ?_
      refine lv_iadd hx hb dX2_numberBy_50 ?_
      refine lv_istore (lv' := [(6, .int (((S 30 (ix x5)) + (x3 * (S (16 + ix x2) (ix x5)))) + (S 22 (ix x5)))), (0, .ref (adr G 3)), (1, .ref (adr G 1)), (2, .int x2), (3, .int x3), (4, .int x4), (5, .int x5)]) hx hb dX2_numberBy_51 hl (by decide) rfl (fun ls hl => ?_)
      refine lv_goto (tgt := 80) hx hb dX2_numberBy_53 (by decide) ?_
      exact w_j_X2_numberBy_80 C  h Kn Kt _ _ _ hW (lv_sub hl [1, 2, 3, 4, 5, 6, 0] rfl)
set_option maxHeartbeats 4000000 in
set_option maxRecDepth 100000 in
theorem l_i_X2_numberBy_6 {G : Geo} {p : Program} {l : Launch} {e : Env} {s : State} {m : MethodId} {args : Array Value} {below : List Frame} {meth : Method} {c : Code} {A : Nat → Prop} {H0 : Heap} {Q : State → Prop} (C : Cx G RX2 cX2_numberBy 7 p s m args c) {S : St} {x2 : Int32} {x3 : Int32} {n : Nat} {q0 : Int32 × Int32} {u : Int32 × Int32} (hq : iter (fun q : Int32 × Int32 => i_X2_numberBy_6 S x2 x3 q.1 q.2) n q0 = some u) (Kt : (fun q : Int32 × Int32 => ∀ (H : Heap) (locs : List Loc) (ls : Array Slot), HX G A H0 S H locs → lv_has ls 7 [(4, .int (q.1))] → W p l e (rmK 0) s m args below meth c H locs 0 0 Q (F0 m 101 ls [])) u) : (fun q : Int32 × Int32 => ∀ (H : Heap) (locs : List Loc) (ls : Array Slot), HX G A H0 S H locs → lv_has ls 7 [(0, .ref (adr G 3)), (1, .ref (adr G 1)), (2, .int x2), (3, .int x3), (4, .int (q.1)), (5, .int (q.2))] → W p l e (rmK 0) s m args below meth c H locs 0 0 Q (F0 m 6 ls [])) q0 :=
  iter_W (P := fun q : Int32 × Int32 => ∀ (H : Heap) (locs : List Loc) (ls : Array Slot), HX G A H0 S H locs → lv_has ls 7 [(0, .ref (adr G 3)), (1, .ref (adr G 1)), (2, .int x2), (3, .int x3), (4, .int (q.1)), (5, .int (q.2))] → W p l e (rmK 0) s m args below meth c H locs 0 0 Q (F0 m 6 ls [])) (K := fun q : Int32 × Int32 => ∀ (H : Heap) (locs : List Loc) (ls : Array Slot), HX G A H0 S H locs → lv_has ls 7 [(4, .int (q.1))] → W p l e (rmK 0) s m args below meth c H locs 0 0 Q (F0 m 101 ls [])) (fun q o hit Kn Kt => w_i_X2_numberBy_6 C  hit Kn Kt) n q0 u hq Kt
def f_X2_numberBy (S : St) (a1 : Int32) (a2 : Int32) : Option (Int32) :=
  bd (iter (fun q => i_X2_numberBy_6 S a1 a2 q.1 q.2) BIG ((0 : Int32), (0 : Int32))) fun q6 => some q6.1
set_option maxHeartbeats 4000000 in
set_option maxRecDepth 100000 in
theorem w_f_X2_numberBy {G : Geo} {p : Program} {l : Launch} {e : Env} {s : State} {m : MethodId} {args : Array Value} {below : List Frame} {meth : Method} {c : Code} {A : Nat → Prop} {H0 : Heap} {Q : State → Prop} (C : Cx G RX2 cX2_numberBy 7 p s m args c) {S : St} {a1 : Int32} {a2 : Int32} {o : Int32} (h : f_X2_numberBy S a1 a2 = some o) (K : KI 37 eX G A H0 cX2_numberBy p l e 0 s m args below meth c Q o S) : ∀ (H : Heap) (locs : List Loc) (ls : Array Slot), HX G A H0 S H locs → lv_has ls 7 [(0, .ref (adr G 3)), (1, .ref (adr G 1)), (2, .int a1), (3, .int a2)] → W p l e (rmK 0) s m args below meth c H locs 0 0 Q (F0 m 0 ls []) := by
  obtain ⟨hx, hb, -⟩ := id C
  intro H locs ls hW hl
  unfold f_X2_numberBy at h
  refine lv_iconst (v := 0) hx hb dX2_numberBy_0 (by decide) ?_
  refine lv_istore (lv' := [(4, .int ((0 : Int32))), (0, .ref (adr G 3)), (1, .ref (adr G 1)), (2, .int a1), (3, .int a2)]) hx hb dX2_numberBy_1 hl (by decide) rfl (fun ls hl => ?_)
  refine lv_iconst (v := 0) hx hb dX2_numberBy_3 (by decide) ?_
  refine lv_istore (lv' := [(5, .int ((0 : Int32))), (4, .int ((0 : Int32))), (0, .ref (adr G 3)), (1, .ref (adr G 1)), (2, .int a1), (3, .int a2)]) hx hb dX2_numberBy_4 hl (by decide) rfl (fun ls hl => ?_)
  obtain ⟨q6, q6h, h⟩ := bd_some h
  refine l_i_X2_numberBy_6 C  q6h ?_ _ _ _ hW (lv_sub hl [2, 3, 4, 5, 1, 0] rfl)
  intro H locs ls hW hl
  refine lv_iload hx hb dX2_numberBy_101 (lv_at hl 0 rfl) ?_
  obtain rfl := Option.some.inj h
  exact K _ _ _ _ dX2_numberBy_103 hW
set_option maxRecDepth 100000 in
theorem c_X2_numberBy (l : Launch) (G : Geo) {S : St} {a1 : Int32} {a2 : Int32} {o : Int32} (h : f_X2_numberBy S a1 a2 = some o) : MI 37 eX G l yX2_numberBy cX2_numberBy 7 (some .int) 0 [.ref (adr G 3), .ref (adr G 1), .int a1, .int a2] S o S :=
  mI_of (by decide +kernel) (Nat.le_of_ble_eq_true rfl) (fun p e s m below meth c A H0 Q C K => w_f_X2_numberBy C h K)
def i_X2_firstThatLeaves_2 (S : St) (x2 : Int32) (x3 : Int32) : Option ((Int32) ⊕ ((Int32) ⊕ (Int32))) :=
  if (S 1 3) ≤ x3 then (some (.inr (.inl x3))) else (bd (f_X2_numberBy S x3 ((-1 : Int32))) fun r15 => bd (f_X2_fewestTo S r15) fun r18 => if r18 = x2 then (some (.inr (.inr x3))) else (some (.inl (x3 + (1 : Int32)))))
set_option maxHeartbeats 4000000 in
set_option maxRecDepth 100000 in
theorem w_i_X2_firstThatLeaves_2 {G : Geo} {p : Program} {l : Launch} {e : Env} {s : State} {m : MethodId} {args : Array Value} {below : List Frame} {meth : Method} {c : Code} {A : Nat → Prop} {H0 : Heap} {Q : State → Prop} (C : Cx G RX2 cX2_firstThatLeaves 4 p s m args c) {S : St} {x2 : Int32} {x3 : Int32} {o : (Int32) ⊕ ((Int32) ⊕ (Int32))} (h : i_X2_firstThatLeaves_2 S x2 x3 = some o) (Kn : ∀ q, o = .inl q → ∀ (H : Heap) (locs : List Loc) (ls : Array Slot), HX G A H0 S H locs → lv_has ls 4 [(0, .ref (adr G 3)), (1, .ref (adr G 1)), (2, .int x2), (3, .int q)] → W p l e (rmK 1) s m args below meth c H locs 0 0 Q (F0 m 2 ls [])) (Kt : ∀ u, o = .inr u → (∀ q, u = .inl q → ∀ (H : Heap) (locs : List Loc) (ls : Array Slot), HX G A H0 S H locs → lv_has ls 4 [] → W p l e (rmK 1) s m args below meth c H locs 0 0 Q (F0 m 33 ls [])) ∧ (∀ r, u = .inr r → KI 37 eX G A H0 cX2_firstThatLeaves p l e 1 s m args below meth c Q r S)) : ∀ (H : Heap) (locs : List Loc) (ls : Array Slot), HX G A H0 S H locs → lv_has ls 4 [(0, .ref (adr G 3)), (1, .ref (adr G 1)), (2, .int x2), (3, .int x3)] → W p l e (rmK 1) s m args below meth c H locs 0 0 Q (F0 m 2 ls []) := by
  obtain ⟨hx, hb, -⟩ := id C
  intro H locs ls hW hl
  unfold i_X2_firstThatLeaves_2 at h
  refine lv_iload_n hx hb dX2_firstThatLeaves_2 rfl (lv_at hl 3 rfl) ?_
  refine lv_aload_n hx hb dX2_firstThatLeaves_3 rfl (lv_at hl 1 rfl) ?_
  refine gf_RX2_57 C hW dX2_firstThatLeaves_4 ?_
  refine lv_icmp_ge (tgt := 33) hx hb dX2_firstThatLeaves_7 (by decide) (fun b7 => ?_) (fun b7 => ?_)
  · have h := it_t b7 h
    obtain rfl := Option.some.inj h
    exact (Kt _ rfl).1 _ rfl _ _ _ hW (lv_sub hl [] rfl)
  · have h := it_f b7 h
    refine lv_aload_n hx hb dX2_firstThatLeaves_10 rfl (lv_at hl 0 rfl) ?_
    refine lv_aload_n hx hb dX2_firstThatLeaves_11 rfl (lv_at hl 0 rfl) ?_
    refine lv_aload_n hx hb dX2_firstThatLeaves_12 rfl (lv_at hl 1 rfl) ?_
    refine lv_iload_n hx hb dX2_firstThatLeaves_13 rfl (lv_at hl 3 rfl) ?_
    refine lv_iconst (v := (-1)) hx hb dX2_firstThatLeaves_14 (by decide) ?_
    obtain ⟨r15, r15h, h⟩ := bd_some h
    refine x_backI hW (x_runV (As := [.ref (adr G 1), .int x3, .int ((-1 : Int32))]) (rest := [.ref (adr G 3)]) C hW (c_X2_numberBy l G r15h H.size) cv_RX2_60 rv_X2 hl.1 rfl rfl ⟨by decide, by decide⟩ (Nat.le_of_ble_eq_true rfl) ⟨Nat.zero_le _, Nat.zero_le _⟩ dX2_firstThatLeaves_15) (fun H locs hW => ?_)
    obtain ⟨r18, r18h, h⟩ := bd_some h
    refine x_backI hW (x_runV (As := [.int r15]) (rest := []) C hW (c_X2_fewestTo l G r18h H.size) cv_RX2_50 rv_X2 hl.1 rfl rfl ⟨by decide, by decide⟩ (Nat.le_of_ble_eq_true rfl) ⟨Nat.zero_le _, Nat.zero_le _⟩ dX2_firstThatLeaves_18) (fun H locs hW => ?_)
    refine lv_iload_n hx hb dX2_firstThatLeaves_21 rfl (lv_at hl 2 rfl) ?_
    refine lv_icmp_ne (tgt := 27) hx hb dX2_firstThatLeaves_22 (by decide) (fun b22 => ?_) (fun b22 => ?_)
    · have h := it_f b22 h
      refine lv_iinc (v := (x3 + (1 : Int32))) (lv' := [(3, .int (x3 + (1 : Int32))), (0, .ref (adr G 3)), (1, .ref (adr G 1)), (2, .int x2)]) hx hb dX2_firstThatLeaves_27 hl (k := 3) rfl rfl (by decide) rfl (fun ls hl => ?_)
      refine lv_goto (tgt := 2) hx hb dX2_firstThatLeaves_30 (by decide) ?_
      obtain rfl := Option.some.inj h
      exact Kn _ rfl _ _ _ hW (lv_sub hl [1, 2, 3, 0] rfl)
    · have h := it_t b22 h
      refine lv_iload_n hx hb dX2_firstThatLeaves_25 rfl (lv_at hl 3 rfl) ?_
      obtain rfl := Option.some.inj h
      exact (Kt _ rfl).2 _ rfl _ _ _ _ dX2_firstThatLeaves_26 hW
set_option maxHeartbeats 4000000 in
set_option maxRecDepth 100000 in
theorem l_i_X2_firstThatLeaves_2 {G : Geo} {p : Program} {l : Launch} {e : Env} {s : State} {m : MethodId} {args : Array Value} {below : List Frame} {meth : Method} {c : Code} {A : Nat → Prop} {H0 : Heap} {Q : State → Prop} (C : Cx G RX2 cX2_firstThatLeaves 4 p s m args c) {S : St} {x2 : Int32} {n : Nat} {q0 : Int32} {u : (Int32) ⊕ (Int32)} (hq : iter (fun q : Int32 => i_X2_firstThatLeaves_2 S x2 q) n q0 = some u) (Kt : (∀ q, u = .inl q → ∀ (H : Heap) (locs : List Loc) (ls : Array Slot), HX G A H0 S H locs → lv_has ls 4 [] → W p l e (rmK 1) s m args below meth c H locs 0 0 Q (F0 m 33 ls [])) ∧ (∀ r, u = .inr r → KI 37 eX G A H0 cX2_firstThatLeaves p l e 1 s m args below meth c Q r S)) : (fun q : Int32 => ∀ (H : Heap) (locs : List Loc) (ls : Array Slot), HX G A H0 S H locs → lv_has ls 4 [(0, .ref (adr G 3)), (1, .ref (adr G 1)), (2, .int x2), (3, .int q)] → W p l e (rmK 1) s m args below meth c H locs 0 0 Q (F0 m 2 ls [])) q0 :=
  iter_W (P := fun q : Int32 => ∀ (H : Heap) (locs : List Loc) (ls : Array Slot), HX G A H0 S H locs → lv_has ls 4 [(0, .ref (adr G 3)), (1, .ref (adr G 1)), (2, .int x2), (3, .int q)] → W p l e (rmK 1) s m args below meth c H locs 0 0 Q (F0 m 2 ls [])) (K := fun u => (∀ q, u = .inl q → ∀ (H : Heap) (locs : List Loc) (ls : Array Slot), HX G A H0 S H locs → lv_has ls 4 [] → W p l e (rmK 1) s m args below meth c H locs 0 0 Q (F0 m 33 ls [])) ∧ (∀ r, u = .inr r → KI 37 eX G A H0 cX2_firstThatLeaves p l e 1 s m args below meth c Q r S)) (fun q o hit Kn Kt => w_i_X2_firstThatLeaves_2 C  hit Kn Kt) n q0 u hq Kt
def f_X2_firstThatLeaves (S : St) (a1 : Int32) : Option (Int32) :=
  bd (iter (fun q => i_X2_firstThatLeaves_2 S a1 q) BIG ((0 : Int32))) fun u2 => sm u2 (fun q2 => some ((-9 : Int32))) fun w2 => some w2
set_option maxHeartbeats 4000000 in
set_option maxRecDepth 100000 in
theorem w_f_X2_firstThatLeaves {G : Geo} {p : Program} {l : Launch} {e : Env} {s : State} {m : MethodId} {args : Array Value} {below : List Frame} {meth : Method} {c : Code} {A : Nat → Prop} {H0 : Heap} {Q : State → Prop} (C : Cx G RX2 cX2_firstThatLeaves 4 p s m args c) {S : St} {a1 : Int32} {o : Int32} (h : f_X2_firstThatLeaves S a1 = some o) (K : KI 37 eX G A H0 cX2_firstThatLeaves p l e 1 s m args below meth c Q o S) : ∀ (H : Heap) (locs : List Loc) (ls : Array Slot), HX G A H0 S H locs → lv_has ls 4 [(0, .ref (adr G 3)), (1, .ref (adr G 1)), (2, .int a1)] → W p l e (rmK 1) s m args below meth c H locs 0 0 Q (F0 m 0 ls []) := by
  obtain ⟨hx, hb, -⟩ := id C
  intro H locs ls hW hl
  unfold f_X2_firstThatLeaves at h
  refine lv_iconst (v := 0) hx hb dX2_firstThatLeaves_0 (by decide) ?_
  refine lv_istore_n (lv' := [(3, .int ((0 : Int32))), (0, .ref (adr G 3)), (1, .ref (adr G 1)), (2, .int a1)]) hx hb dX2_firstThatLeaves_1 rfl hl (by decide) rfl (fun ls hl => ?_)
  obtain ⟨u2, u2h, h⟩ := bd_some h
  refine l_i_X2_firstThatLeaves_2 C  u2h ⟨?_, ?_⟩ _ _ _ hW (lv_sub hl [1, 2, 3, 0] rfl)
  · intro q2 hu; subst hu; have h := sm_l h
    intro H locs ls hW hl
    refine lv_bipush (v := (-9)) hx hb dX2_firstThatLeaves_33 (by decide) ?_
    obtain rfl := Option.some.inj h
    exact K _ _ _ _ dX2_firstThatLeaves_35 hW
  · intro w2 hu; subst hu; have h := sm_r h
    obtain rfl := Option.some.inj h
    exact K
set_option maxRecDepth 100000 in
theorem c_X2_firstThatLeaves (l : Launch) (G : Geo) {S : St} {a1 : Int32} {o : Int32} (h : f_X2_firstThatLeaves S a1 = some o) : MI 37 eX G l yX2_firstThatLeaves cX2_firstThatLeaves 4 (some .int) 1 [.ref (adr G 3), .ref (adr G 1), .int a1] S o S :=
  mI_of (by decide +kernel) (Nat.le_of_ble_eq_true rfl) (fun p e s m below meth c A H0 Q C K => w_f_X2_firstThatLeaves C h K)
def f_X2_forget (S : St) : Option (St) :=
  some (up S 3 6 ((-1 : Int32)))
set_option maxHeartbeats 4000000 in
set_option maxRecDepth 100000 in
theorem w_f_X2_forget {G : Geo} {p : Program} {l : Launch} {e : Env} {s : State} {m : MethodId} {args : Array Value} {below : List Frame} {meth : Method} {c : Code} {A : Nat → Prop} {H0 : Heap} {Q : State → Prop} (C : Cx G RX2 cX2_forget 1 p s m args c) {S : St}  {o : St} (h : f_X2_forget S = some o) (K : KV 37 eX G A H0 cX2_forget p l e 0 s m args below meth c Q o) : ∀ (H : Heap) (locs : List Loc) (ls : Array Slot), HX G A H0 S H locs → lv_has ls 1 [(0, .ref (adr G 3))] → W p l e (rmK 0) s m args below meth c H locs 0 0 Q (F0 m 0 ls []) := by
  obtain ⟨hx, hb, -⟩ := id C
  intro H locs ls hW hl
  unfold f_X2_forget at h
  refine lv_aload_n hx hb dX2_forget_0 rfl (lv_at hl 0 rfl) ?_
  refine lv_iconst (v := (-1)) hx hb dX2_forget_1 (by decide) ?_
  refine pf_RX2_29 C hW dX2_forget_2 (fun H locs hW => ?_)
  obtain rfl := Option.some.inj h
  exact K _ _ _ _ dX2_forget_5 hW
set_option maxRecDepth 100000 in
theorem c_X2_forget (l : Launch) (G : Geo) {S : St}  {o : St} (h : f_X2_forget S = some o) : MV 37 eX G l yX2_forget cX2_forget 1 none 0 [.ref (adr G 3)] S o :=
  mV_of (by decide +kernel) (Nat.le_of_ble_eq_true rfl) (fun p e s m below meth c A H0 Q C K => w_f_X2_forget C h K)
def i_X2_measure_31 (S : St) (x2 : Int32) (x3 : Int32) (x4 : Int32) : Option ((St × Int32) ⊕ (St × Int32)) :=
  if (S 1 3) ≤ x4 then (some (.inr (S, x4))) else (ck (okx x4 5) <| bd (f_X1_stepOf S x4 x3) fun r52 => ck (okx x3 5) <| some (.inl (up S (16 + ix x4) (ix x3) r52, x4 + (1 : Int32))))
set_option maxHeartbeats 4000000 in
set_option maxRecDepth 100000 in
theorem w_i_X2_measure_31 {G : Geo} {p : Program} {l : Launch} {e : Env} {s : State} {m : MethodId} {args : Array Value} {below : List Frame} {meth : Method} {c : Code} {A : Nat → Prop} {H0 : Heap} {Q : State → Prop} (C : Cx G RX2 cX2_measure 5 p s m args c) {S : St} {x2 : Int32} {x3 : Int32} {x4 : Int32} {o : (St × Int32) ⊕ (St × Int32)} (h : i_X2_measure_31 S x2 x3 x4 = some o) (Kn : ∀ q, o = .inl q → ∀ (H : Heap) (locs : List Loc) (ls : Array Slot), HX G A H0 q.1 H locs → lv_has ls 5 [(0, .ref (adr G 3)), (1, .ref (adr G 1)), (2, .int x2), (3, .int x3), (4, .int (q.2))] → W p l e (rmK 3) s m args below meth c H locs 0 0 Q (F0 m 31 ls [])) (Kt : ∀ q, o = .inr q → ∀ (H : Heap) (locs : List Loc) (ls : Array Slot), HX G A H0 q.1 H locs → lv_has ls 5 [(0, .ref (adr G 3)), (1, .ref (adr G 1)), (2, .int x2), (3, .int x3)] → W p l e (rmK 3) s m args below meth c H locs 0 0 Q (F0 m 62 ls [])) : ∀ (H : Heap) (locs : List Loc) (ls : Array Slot), HX G A H0 S H locs → lv_has ls 5 [(0, .ref (adr G 3)), (1, .ref (adr G 1)), (2, .int x2), (3, .int x3), (4, .int x4)] → W p l e (rmK 3) s m args below meth c H locs 0 0 Q (F0 m 31 ls []) := by
  obtain ⟨hx, hb, -⟩ := id C
  intro H locs ls hW hl
  unfold i_X2_measure_31 at h
  refine lv_iload hx hb dX2_measure_31 (lv_at hl 4 rfl) ?_
  refine lv_aload_n hx hb dX2_measure_33 rfl (lv_at hl 1 rfl) ?_
  refine gf_RX2_57 C hW dX2_measure_34 ?_
  refine lv_icmp_ge (tgt := 62) hx hb dX2_measure_37 (by decide) (fun b37 => ?_) (fun b37 => ?_)
  · have h := it_t b37 h
    obtain rfl := Option.some.inj h
    exact Kt _ rfl _ _ _ hW (lv_sub hl [0, 1, 2, 3] rfl)
  · have h := it_f b37 h
    refine lv_aload_n hx hb dX2_measure_40 rfl (lv_at hl 0 rfl) ?_
    refine gf_RX2_17 C hW dX2_measure_41 ?_
    refine lv_iload hx hb dX2_measure_44 (lv_at hl 4 rfl) ?_
    obtain ⟨g46, h⟩ := ck_some h
    refine x_steps C hW g46 dX2_measure_46 ?_
    refine lv_iload_n hx hb dX2_measure_47 rfl (lv_at hl 3 rfl) ?_
    refine lv_aload_n hx hb dX2_measure_48 rfl (lv_at hl 1 rfl) ?_
    refine lv_iload hx hb dX2_measure_49 (lv_at hl 4 rfl) ?_
    refine lv_iload_n hx hb dX2_measure_51 rfl (lv_at hl 3 rfl) ?_
    obtain ⟨r52, r52h, h⟩ := bd_some h
    refine x_backI hW (x_runV (As := [.int x4, .int x3]) (rest := [.int x3, .ref (adr G (16 + ix x4))]) C hW (c_X1_stepOf l G r52h H.size) cv_RX2_82 rv_X1 hl.1 rfl rfl ⟨by decide, by decide⟩ (Nat.le_of_ble_eq_true rfl) ⟨Nat.zero_le _, Nat.zero_le _⟩ dX2_measure_52) (fun H locs hW => ?_)
    obtain ⟨g55, h⟩ := ck_some h
    refine x_iast C hW (k := 16 + ix x4) (n := 5) (st_lt g46) (eX_step g46) g55 dX2_measure_55 (fun H locs hW => ?_)
    refine lv_iinc (v := (x4 + (1 : Int32))) (lv' := [(4, .int (x4 + (1 : Int32))), (0, .ref (adr G 3)), (1, .ref (adr G 1)), (2, .int x2), (3, .int x3)]) hx hb dX2_measure_56 hl (k := 4) rfl rfl (by decide) rfl (fun ls hl => ?_)
    refine lv_goto (tgt := 31) hx hb dX2_measure_59 (by decide) ?_
    obtain rfl := Option.some.inj h
    exact Kn _ rfl _ _ _ hW (lv_sub hl [1, 2, 3, 4, 0] rfl)
set_option maxHeartbeats 4000000 in
set_option maxRecDepth 100000 in
theorem l_i_X2_measure_31 {G : Geo} {p : Program} {l : Launch} {e : Env} {s : State} {m : MethodId} {args : Array Value} {below : List Frame} {meth : Method} {c : Code} {A : Nat → Prop} {H0 : Heap} {Q : State → Prop} (C : Cx G RX2 cX2_measure 5 p s m args c) {x2 : Int32} {x3 : Int32} {n : Nat} {q0 : St × Int32} {u : St × Int32} (hq : iter (fun q : St × Int32 => i_X2_measure_31 q.1 x2 x3 q.2) n q0 = some u) (Kt : (fun q : St × Int32 => ∀ (H : Heap) (locs : List Loc) (ls : Array Slot), HX G A H0 q.1 H locs → lv_has ls 5 [(0, .ref (adr G 3)), (1, .ref (adr G 1)), (2, .int x2), (3, .int x3)] → W p l e (rmK 3) s m args below meth c H locs 0 0 Q (F0 m 62 ls [])) u) : (fun q : St × Int32 => ∀ (H : Heap) (locs : List Loc) (ls : Array Slot), HX G A H0 q.1 H locs → lv_has ls 5 [(0, .ref (adr G 3)), (1, .ref (adr G 1)), (2, .int x2), (3, .int x3), (4, .int (q.2))] → W p l e (rmK 3) s m args below meth c H locs 0 0 Q (F0 m 31 ls [])) q0 :=
  iter_W (P := fun q : St × Int32 => ∀ (H : Heap) (locs : List Loc) (ls : Array Slot), HX G A H0 q.1 H locs → lv_has ls 5 [(0, .ref (adr G 3)), (1, .ref (adr G 1)), (2, .int x2), (3, .int x3), (4, .int (q.2))] → W p l e (rmK 3) s m args below meth c H locs 0 0 Q (F0 m 31 ls [])) (K := fun q : St × Int32 => ∀ (H : Heap) (locs : List Loc) (ls : Array Slot), HX G A H0 q.1 H locs → lv_has ls 5 [(0, .ref (adr G 3)), (1, .ref (adr G 1)), (2, .int x2), (3, .int x3)] → W p l e (rmK 3) s m args below meth c H locs 0 0 Q (F0 m 62 ls [])) (fun q o hit Kn Kt => w_i_X2_measure_31 C  hit Kn Kt) n q0 u hq Kt
def i_X2_measure_4 (S : St) (x2 : Int32) (x3 : Int32) : Option ((St × Int32 × Int32) ⊕ (St × Int32 × Int32)) :=
  if (S 1 0) ≤ x3 then (some (.inr (S, x2, x3))) else (ck (okx x3 5) <| ck (okx x3 5) <| bd (iter (fun q => i_X2_measure_31 q.1 (x2 * ((up S 29 (ix x3) x2) 22 (ix x3))) x3 q.2) BIG (up S 29 (ix x3) x2, (0 : Int32))) fun q31 => some (.inl (q31.1, x2 * ((up S 29 (ix x3) x2) 22 (ix x3)), x3 + (1 : Int32))))
set_option maxHeartbeats 4000000 in
set_option maxRecDepth 100000 in
theorem w_i_X2_measure_4 {G : Geo} {p : Program} {l : Launch} {e : Env} {s : State} {m : MethodId} {args : Array Value} {below : List Frame} {meth : Method} {c : Code} {A : Nat → Prop} {H0 : Heap} {Q : State → Prop} (C : Cx G RX2 cX2_measure 5 p s m args c) {S : St} {x2 : Int32} {x3 : Int32} {o : (St × Int32 × Int32) ⊕ (St × Int32 × Int32)} (h : i_X2_measure_4 S x2 x3 = some o) (Kn : ∀ q, o = .inl q → ∀ (H : Heap) (locs : List Loc) (ls : Array Slot), HX G A H0 q.1 H locs → lv_has ls 5 [(0, .ref (adr G 3)), (1, .ref (adr G 1)), (2, .int (q.2.1)), (3, .int (q.2.2))] → W p l e (rmK 3) s m args below meth c H locs 0 0 Q (F0 m 4 ls [])) (Kt : ∀ q, o = .inr q → ∀ (H : Heap) (locs : List Loc) (ls : Array Slot), HX G A H0 q.1 H locs → lv_has ls 5 [(2, .int (q.2.1))] → W p l e (rmK 3) s m args below meth c H locs 0 0 Q (F0 m 68 ls [])) : ∀ (H : Heap) (locs : List Loc) (ls : Array Slot), HX G A H0 S H locs → lv_has ls 5 [(0, .ref (adr G 3)), (1, .ref (adr G 1)), (2, .int x2), (3, .int x3)] → W p l e (rmK 3) s m args below meth c H locs 0 0 Q (F0 m 4 ls []) := by
  obtain ⟨hx, hb, -⟩ := id C
  intro H locs ls hW hl
  unfold i_X2_measure_4 at h
  refine lv_iload_n hx hb dX2_measure_4 rfl (lv_at hl 3 rfl) ?_
  refine lv_aload_n hx hb dX2_measure_5 rfl (lv_at hl 1 rfl) ?_
  refine gf_RX2_76 C hW dX2_measure_6 ?_
  refine lv_icmp_ge (tgt := 68) hx hb dX2_measure_9 (by decide) (fun b9 => ?_) (fun b9 => ?_)
  · have h := it_t b9 h
    obtain rfl := Option.some.inj h
    exact Kt _ rfl _ _ _ hW (lv_sub hl [2] rfl)
  · have h := it_f b9 h
    refine lv_aload_n hx hb dX2_measure_12 rfl (lv_at hl 0 rfl) ?_
    refine gf_RX2_9 C hW dX2_measure_13 ?_
    refine lv_iload_n hx hb dX2_measure_16 rfl (lv_at hl 3 rfl) ?_
    refine lv_iload_n hx hb dX2_measure_17 rfl (lv_at hl 2 rfl) ?_
    obtain ⟨g18, h⟩ := ck_some h
    refine x_iast C hW (k := 29) (n := 5) (by decide) (fun _ => rfl) g18 dX2_measure_18 (fun H locs hW => ?_)
    refine lv_iload_n hx hb dX2_measure_19 rfl (lv_at hl 2 rfl) ?_
    refine lv_aload_n hx hb dX2_measure_20 rfl (lv_at hl 1 rfl) ?_
    refine gf_RX2_79 C hW dX2_measure_21 ?_
    refine lv_iload_n hx hb dX2_measure_24 rfl (lv_at hl 3 rfl) ?_
    obtain ⟨g25, h⟩ := ck_some h
    refine x_iald C hW (k := 22) (n := 5) (by decide) (fun _ => rfl) g25 dX2_measure_25 ?_
    refine lv_imul hx hb dX2_measure_26 ?_
    refine lv_istore_n (lv' := [(2, .int (x2 * ((up S 29 (ix x3) x2) 22 (ix x3)))), (0, .ref (adr G 3)), (1, .ref (adr G 1)), (3, .int x3)]) hx hb dX2_measure_27 rfl hl (by decide) rfl (fun ls hl => ?_)
    refine lv_iconst (v := 0) hx hb dX2_measure_28 (by decide) ?_
    refine lv_istore (lv' := [(4, .int ((0 : Int32))), (2, .int (x2 * ((up S 29 (ix x3) x2) 22 (ix x3)))), (0, .ref (adr G 3)), (1, .ref (adr G 1)), (3, .int x3)]) hx hb dX2_measure_29 hl (by decide) rfl (fun ls hl => ?_)
    obtain ⟨q31, q31h, h⟩ := bd_some h
    refine l_i_X2_measure_31 C  q31h ?_ _ _ _ hW (lv_sub hl [2, 3, 1, 4, 0] rfl)
    intro H locs ls hW hl
    refine lv_iinc (v := (x3 + (1 : Int32))) (lv' := [(3, .int (x3 + (1 : Int32))), (0, .ref (adr G 3)), (1, .ref (adr G 1)), (2, .int (x2 * ((up S 29 (ix x3) x2) 22 (ix x3))))]) hx hb dX2_measure_62 hl (k := 3) rfl rfl (by decide) rfl (fun ls hl => ?_)
    refine lv_goto (tgt := 4) hx hb dX2_measure_65 (by decide) ?_
    obtain rfl := Option.some.inj h
    exact Kn _ rfl _ _ _ hW (lv_sub hl [1, 2, 3, 0] rfl)
set_option maxHeartbeats 4000000 in
set_option maxRecDepth 100000 in
theorem l_i_X2_measure_4 {G : Geo} {p : Program} {l : Launch} {e : Env} {s : State} {m : MethodId} {args : Array Value} {below : List Frame} {meth : Method} {c : Code} {A : Nat → Prop} {H0 : Heap} {Q : State → Prop} (C : Cx G RX2 cX2_measure 5 p s m args c)  {n : Nat} {q0 : St × Int32 × Int32} {u : St × Int32 × Int32} (hq : iter (fun q : St × Int32 × Int32 => i_X2_measure_4 q.1 q.2.1 q.2.2) n q0 = some u) (Kt : (fun q : St × Int32 × Int32 => ∀ (H : Heap) (locs : List Loc) (ls : Array Slot), HX G A H0 q.1 H locs → lv_has ls 5 [(2, .int (q.2.1))] → W p l e (rmK 3) s m args below meth c H locs 0 0 Q (F0 m 68 ls [])) u) : (fun q : St × Int32 × Int32 => ∀ (H : Heap) (locs : List Loc) (ls : Array Slot), HX G A H0 q.1 H locs → lv_has ls 5 [(0, .ref (adr G 3)), (1, .ref (adr G 1)), (2, .int (q.2.1)), (3, .int (q.2.2))] → W p l e (rmK 3) s m args below meth c H locs 0 0 Q (F0 m 4 ls [])) q0 :=
  iter_W (P := fun q : St × Int32 × Int32 => ∀ (H : Heap) (locs : List Loc) (ls : Array Slot), HX G A H0 q.1 H locs → lv_has ls 5 [(0, .ref (adr G 3)), (1, .ref (adr G 1)), (2, .int (q.2.1)), (3, .int (q.2.2))] → W p l e (rmK 3) s m args below meth c H locs 0 0 Q (F0 m 4 ls [])) (K := fun q : St × Int32 × Int32 => ∀ (H : Heap) (locs : List Loc) (ls : Array Slot), HX G A H0 q.1 H locs → lv_has ls 5 [(2, .int (q.2.1))] → W p l e (rmK 3) s m args below meth c H locs 0 0 Q (F0 m 68 ls [])) (fun q o hit Kn Kt => w_i_X2_measure_4 C  hit Kn Kt) n q0 u hq Kt
def f_X2_measure (S : St) : Option (Int32 × St) :=
  bd (iter (fun q => i_X2_measure_4 q.1 q.2.1 q.2.2) BIG (S, (1 : Int32), (0 : Int32))) fun q4 => some (q4.2.1, q4.1)
set_option maxHeartbeats 4000000 in
set_option maxRecDepth 100000 in
theorem w_f_X2_measure {G : Geo} {p : Program} {l : Launch} {e : Env} {s : State} {m : MethodId} {args : Array Value} {below : List Frame} {meth : Method} {c : Code} {A : Nat → Prop} {H0 : Heap} {Q : State → Prop} (C : Cx G RX2 cX2_measure 5 p s m args c) {S : St}  {o : Int32 × St} (h : f_X2_measure S = some o) (K : KI 37 eX G A H0 cX2_measure p l e 3 s m args below meth c Q ((o).1) ((o).2)) : ∀ (H : Heap) (locs : List Loc) (ls : Array Slot), HX G A H0 S H locs → lv_has ls 5 [(0, .ref (adr G 3)), (1, .ref (adr G 1))] → W p l e (rmK 3) s m args below meth c H locs 0 0 Q (F0 m 0 ls []) := by
  obtain ⟨hx, hb, -⟩ := id C
  intro H locs ls hW hl
  unfold f_X2_measure at h
  refine lv_iconst (v := 1) hx hb dX2_measure_0 (by decide) ?_
  refine lv_istore_n (lv' := [(2, .int ((1 : Int32))), (0, .ref (adr G 3)), (1, .ref (adr G 1))]) hx hb dX2_measure_1 rfl hl (by decide) rfl (fun ls hl => ?_)
  refine lv_iconst (v := 0) hx hb dX2_measure_2 (by decide) ?_
  refine lv_istore_n (lv' := [(3, .int ((0 : Int32))), (2, .int ((1 : Int32))), (0, .ref (adr G 3)), (1, .ref (adr G 1))]) hx hb dX2_measure_3 rfl hl (by decide) rfl (fun ls hl => ?_)
  obtain ⟨q4, q4h, h⟩ := bd_some h
  refine l_i_X2_measure_4 C  q4h ?_ _ _ _ hW (lv_sub hl [2, 3, 1, 0] rfl)
  intro H locs ls hW hl
  refine lv_iload_n hx hb dX2_measure_68 rfl (lv_at hl 0 rfl) ?_
  obtain rfl := Option.some.inj h
  exact K _ _ _ _ dX2_measure_69 hW
set_option maxRecDepth 100000 in
theorem c_X2_measure (l : Launch) (G : Geo) {S : St}  {o : Int32 × St} (h : f_X2_measure S = some o) : MI 37 eX G l yX2_measure cX2_measure 5 (some .int) 3 [.ref (adr G 3), .ref (adr G 1)] S o.1 o.2 :=
  mI_of (by decide +kernel) (Nat.le_of_ble_eq_true rfl) (fun p e s m below meth c A H0 Q C K => w_f_X2_measure C h K)
def f_X2_meet (S : St) (a0 : Int32) (a1 : Int32) : Option (St) :=
  if a0 < 0 then (some S) else (if ((3125 : Int32)) ≤ a0 then (some S) else (if ((3125 : Int32)) ≤ (S 3 5) then (some S) else (ck (okx a0 3125) <| if (S 31 (ix a0)) = ((-9 : Int32)) then (ck (okx a0 3125) <| ck (okx ((up S 31 (ix a0) a1) 3 5) 3125) <| some (up (up (up S 31 (ix a0) a1) 32 (ix ((up S 31 (ix a0) a1) 3 5)) a0) 3 5 (((up (up S 31 (ix a0) a1) 32 (ix ((up S 31 (ix a0) a1) 3 5)) a0) 3 5) + ((1 : Int32))))) else (some S))))
set_option maxHeartbeats 4000000 in
set_option maxRecDepth 100000 in
theorem w_f_X2_meet {G : Geo} {p : Program} {l : Launch} {e : Env} {s : State} {m : MethodId} {args : Array Value} {below : List Frame} {meth : Method} {c : Code} {A : Nat → Prop} {H0 : Heap} {Q : State → Prop} (C : Cx G RX2 cX2_meet 3 p s m args c) {S : St} {a0 : Int32} {a1 : Int32} {o : St} (h : f_X2_meet S a0 a1 = some o) (K : KV 37 eX G A H0 cX2_meet p l e 0 s m args below meth c Q o) : ∀ (H : Heap) (locs : List Loc) (ls : Array Slot), HX G A H0 S H locs → lv_has ls 3 [(0, .ref (adr G 3)), (1, .int a0), (2, .int a1)] → W p l e (rmK 0) s m args below meth c H locs 0 0 Q (F0 m 0 ls []) := by
  obtain ⟨hx, hb, -⟩ := id C
  intro H locs ls hW hl
  unfold f_X2_meet at h
  refine lv_iload_n hx hb dX2_meet_0 rfl (lv_at hl 1 rfl) ?_
  refine lv_if_lt (tgt := 59) hx hb dX2_meet_1 (by decide) (fun b1 => ?_) (fun b1 => ?_)
  · have h := it_t b1 h
    obtain rfl := Option.some.inj h
    exact K _ _ _ _ dX2_meet_59 hW
  · have h := it_f b1 h
    refine lv_iload_n hx hb dX2_meet_4 rfl (lv_at hl 1 rfl) ?_
    refine lv_sipush (v := 3125) hx hb dX2_meet_5 (by decide) ?_
    refine lv_icmp_ge (tgt := 59) hx hb dX2_meet_8 (by decide) (fun b8 => ?_) (fun b8 => ?_)
    · have h := it_t b8 h
      obtain rfl := Option.some.inj h
      exact K _ _ _ _ dX2_meet_59 hW
    · have h := it_f b8 h
      refine lv_aload_n hx hb dX2_meet_11 rfl (lv_at hl 0 rfl) ?_
      refine gf_RX2_37 C hW dX2_meet_12 ?_
      refine lv_sipush (v := 3125) hx hb dX2_meet_15 (by decide) ?_
      refine lv_icmp_ge (tgt := 59) hx hb dX2_meet_18 (by decide) (fun b18 => ?_) (fun b18 => ?_)
      · have h := it_t b18 h
        obtain rfl := Option.some.inj h
        exact K _ _ _ _ dX2_meet_59 hW
      · have h := it_f b18 h
        refine lv_aload_n hx hb dX2_meet_21 rfl (lv_at hl 0 rfl) ?_
        refine gf_RX2_23 C hW dX2_meet_22 ?_
        refine lv_iload_n hx hb dX2_meet_25 rfl (lv_at hl 1 rfl) ?_
        obtain ⟨g26, h⟩ := ck_some h
        refine x_iald C hW (k := 31) (n := 3125) (by decide) (fun _ => rfl) g26 dX2_meet_26 ?_
        refine lv_bipush (v := (-9)) hx hb dX2_meet_27 (by decide) ?_
        refine lv_icmp_ne (tgt := 59) hx hb dX2_meet_29 (by decide) (fun b29 => ?_) (fun b29 => ?_)
        · have h := it_f b29 h
          obtain rfl := Option.some.inj h
          exact K _ _ _ _ dX2_meet_59 hW
        · have h := it_t b29 h
          refine lv_aload_n hx hb dX2_meet_32 rfl (lv_at hl 0 rfl) ?_
          refine gf_RX2_23 C hW dX2_meet_33 ?_
          refine lv_iload_n hx hb dX2_meet_36 rfl (lv_at hl 1 rfl) ?_
          refine lv_iload_n hx hb dX2_meet_37 rfl (lv_at hl 2 rfl) ?_
          obtain ⟨g38, h⟩ := ck_some h
          refine x_iast C hW (k := 31) (n := 3125) (by decide) (fun _ => rfl) g38 dX2_meet_38 (fun H locs hW => ?_)
          refine lv_aload_n hx hb dX2_meet_39 rfl (lv_at hl 0 rfl) ?_
          refine gf_RX2_26 C hW dX2_meet_40 ?_
          refine lv_aload_n hx hb dX2_meet_43 rfl (lv_at hl 0 rfl) ?_
          refine gf_RX2_37 C hW dX2_meet_44 ?_
          refine lv_iload_n hx hb dX2_meet_47 rfl (lv_at hl 1 rfl) ?_
          obtain ⟨g48, h⟩ := ck_some h
          refine x_iast C hW (k := 32) (n := 3125) (by decide) (fun _ => rfl) g48 dX2_meet_48 (fun H locs hW => ?_)
          refine lv_aload_n hx hb dX2_meet_49 rfl (lv_at hl 0 rfl) ?_
          refine lv_dup hx hb dX2_meet_50 rfl ?_
          refine gf_RX2_37 C hW dX2_meet_51 ?_
          refine lv_iconst (v := 1) hx hb dX2_meet_54 (by decide) ?_
          refine lv_iadd hx hb dX2_meet_55 ?_
          refine pf_RX2_37 C hW dX2_meet_56 (fun H locs hW => ?_)
          obtain rfl := Option.some.inj h
          exact K _ _ _ _ dX2_meet_59 hW
set_option maxRecDepth 100000 in
theorem c_X2_meet (l : Launch) (G : Geo) {S : St} {a0 : Int32} {a1 : Int32} {o : St} (h : f_X2_meet S a0 a1 = some o) : MV 37 eX G l yX2_meet cX2_meet 3 none 0 [.ref (adr G 3), .int a0, .int a1] S o :=
  mV_of (by decide +kernel) (Nat.le_of_ble_eq_true rfl) (fun p e s m below meth c A H0 Q C K => w_f_X2_meet C h K)
def i_X2_splitUp_5 (S : St) (x3 : Int32) (x4 : Int32) : Option ((St × Int32 × Int32) ⊕ (St × Int32 × Int32)) :=
  if (S 1 0) ≤ x4 then (some (.inr (S, x3, x4))) else (ck (okx x4 5) <| bd (f_J9_max_7cf53 ((1 : Int32)) (S 22 (ix x4))) fun r22 => ck (¬ r22 = 0) <| ck (okx x4 5) <| ck (¬ r22 = 0) <| some (.inl (up S 30 (ix x4) (rem32 x3 r22), x3 / r22, x4 + (1 : Int32))))
set_option maxHeartbeats 4000000 in
set_option maxRecDepth 100000 in
theorem w_i_X2_splitUp_5 {G : Geo} {p : Program} {l : Launch} {e : Env} {s : State} {m : MethodId} {args : Array Value} {below : List Frame} {meth : Method} {c : Code} {A : Nat → Prop} {H0 : Heap} {Q : State → Prop} (C : Cx G RX2 cX2_splitUp 6 p s m args c) {S : St} {x3 : Int32} {x4 : Int32} {o : (St × Int32 × Int32) ⊕ (St × Int32 × Int32)} (h : i_X2_splitUp_5 S x3 x4 = some o) (Kn : ∀ q, o = .inl q → ∀ (H : Heap) (locs : List Loc) (ls : Array Slot), HX G A H0 q.1 H locs → lv_has ls 6 [(0, .ref (adr G 3)), (1, .ref (adr G 1)), (3, .int (q.2.1)), (4, .int (q.2.2))] → W p l e (rmK 1) s m args below meth c H locs 0 0 Q (F0 m 5 ls [])) (Kt : ∀ q, o = .inr q → ∀ (H : Heap) (locs : List Loc) (ls : Array Slot), HX G A H0 q.1 H locs → lv_has ls 6 [] → W p l e (rmK 1) s m args below meth c H locs 0 0 Q (F0 m 49 ls [])) : ∀ (H : Heap) (locs : List Loc) (ls : Array Slot), HX G A H0 S H locs → lv_has ls 6 [(0, .ref (adr G 3)), (1, .ref (adr G 1)), (3, .int x3), (4, .int x4)] → W p l e (rmK 1) s m args below meth c H locs 0 0 Q (F0 m 5 ls []) := by
  obtain ⟨hx, hb, -⟩ := id C
  intro H locs ls hW hl
  unfold i_X2_splitUp_5 at h
  refine lv_iload hx hb dX2_splitUp_5 (lv_at hl 3 rfl) ?_
  refine lv_aload_n hx hb dX2_splitUp_7 rfl (lv_at hl 1 rfl) ?_
  refine gf_RX2_76 C hW dX2_splitUp_8 ?_
  refine lv_icmp_ge (tgt := 49) hx hb dX2_splitUp_11 (by decide) (fun b11 => ?_) (fun b11 => ?_)
  · have h := it_t b11 h
    obtain rfl := Option.some.inj h
    exact Kt _ rfl _ _ _ hW (lv_sub hl [] rfl)
  · have h := it_f b11 h
    refine lv_iconst (v := 1) hx hb dX2_splitUp_14 (by decide) ?_
    refine lv_aload_n hx hb dX2_splitUp_15 rfl (lv_at hl 1 rfl) ?_
    refine gf_RX2_79 C hW dX2_splitUp_16 ?_
    refine lv_iload hx hb dX2_splitUp_19 (lv_at hl 3 rfl) ?_
    obtain ⟨g21, h⟩ := ck_some h
    refine x_iald C hW (k := 22) (n := 5) (by decide) (fun _ => rfl) g21 dX2_splitUp_21 ?_
    obtain ⟨r22, r22h, h⟩ := bd_some h
    refine x_backI hW (x_runS (As := [.int ((1 : Int32)), .int (S 22 (ix x4))]) (rest := []) C hW (c_J9_max_7cf53 l G (S := S) r22h H.size) cs_RX2_86 hl.1 rfl rfl ⟨by decide, by decide⟩ (Nat.le_of_ble_eq_true rfl) ⟨Nat.zero_le _, Nat.zero_le _⟩ dX2_splitUp_22) (fun H locs hW => ?_)
    refine lv_istore (lv' := [(5, .int r22), (0, .ref (adr G 3)), (1, .ref (adr G 1)), (3, .int x3), (4, .int x4)]) hx hb dX2_splitUp_25 hl (by decide) rfl (fun ls hl => ?_)
    refine lv_aload_n hx hb dX2_splitUp_27 rfl (lv_at hl 1 rfl) ?_
    refine gf_RX2_20 C hW dX2_splitUp_28 ?_
    refine lv_iload hx hb dX2_splitUp_31 (lv_at hl 4 rfl) ?_
    refine lv_iload_n hx hb dX2_splitUp_33 rfl (lv_at hl 3 rfl) ?_
    refine lv_iload hx hb dX2_splitUp_34 (lv_at hl 0 rfl) ?_
    obtain ⟨g36, h⟩ := ck_some h
    refine lv_irem hx hb dX2_splitUp_36 g36 ?_
    obtain ⟨g37, h⟩ := ck_some h
    refine x_iast C hW (k := 30) (n := 5) (by decide) (fun _ => rfl) g37 dX2_splitUp_37 (fun H locs hW => ?_)
    refine lv_iload_n hx hb dX2_splitUp_38 rfl (lv_at hl 3 rfl) ?_
    refine lv_iload hx hb dX2_splitUp_39 (lv_at hl 0 rfl) ?_
    obtain ⟨g41, h⟩ := ck_some h
    refine lv_idiv hx hb dX2_splitUp_41 g41 ?_
    refine lv_istore_n (lv' := [(3, .int (x3 / r22)), (5, .int r22), (0, .ref (adr G 3)), (1, .ref (adr G 1)), (4, .int x4)]) hx hb dX2_splitUp_42 rfl hl (by decide) rfl (fun ls hl => ?_)
    refine lv_iinc (v := (x4 + (1 : Int32))) (lv' := [(4, .int (x4 + (1 : Int32))), (3, .int (x3 / r22)), (5, .int r22), (0, .ref (adr G 3)), (1, .ref (adr G 1))]) hx hb dX2_splitUp_43 hl (k := 4) rfl rfl (by decide) rfl (fun ls hl => ?_)
    refine lv_goto (tgt := 5) hx hb dX2_splitUp_46 (by decide) ?_
    obtain rfl := Option.some.inj h
    exact Kn _ rfl _ _ _ hW (lv_sub hl [3, 4, 1, 0] rfl)
set_option maxHeartbeats 4000000 in
set_option maxRecDepth 100000 in
theorem l_i_X2_splitUp_5 {G : Geo} {p : Program} {l : Launch} {e : Env} {s : State} {m : MethodId} {args : Array Value} {below : List Frame} {meth : Method} {c : Code} {A : Nat → Prop} {H0 : Heap} {Q : State → Prop} (C : Cx G RX2 cX2_splitUp 6 p s m args c)  {n : Nat} {q0 : St × Int32 × Int32} {u : St × Int32 × Int32} (hq : iter (fun q : St × Int32 × Int32 => i_X2_splitUp_5 q.1 q.2.1 q.2.2) n q0 = some u) (Kt : (fun q : St × Int32 × Int32 => ∀ (H : Heap) (locs : List Loc) (ls : Array Slot), HX G A H0 q.1 H locs → lv_has ls 6 [] → W p l e (rmK 1) s m args below meth c H locs 0 0 Q (F0 m 49 ls [])) u) : (fun q : St × Int32 × Int32 => ∀ (H : Heap) (locs : List Loc) (ls : Array Slot), HX G A H0 q.1 H locs → lv_has ls 6 [(0, .ref (adr G 3)), (1, .ref (adr G 1)), (3, .int (q.2.1)), (4, .int (q.2.2))] → W p l e (rmK 1) s m args below meth c H locs 0 0 Q (F0 m 5 ls [])) q0 :=
  iter_W (P := fun q : St × Int32 × Int32 => ∀ (H : Heap) (locs : List Loc) (ls : Array Slot), HX G A H0 q.1 H locs → lv_has ls 6 [(0, .ref (adr G 3)), (1, .ref (adr G 1)), (3, .int (q.2.1)), (4, .int (q.2.2))] → W p l e (rmK 1) s m args below meth c H locs 0 0 Q (F0 m 5 ls [])) (K := fun q : St × Int32 × Int32 => ∀ (H : Heap) (locs : List Loc) (ls : Array Slot), HX G A H0 q.1 H locs → lv_has ls 6 [] → W p l e (rmK 1) s m args below meth c H locs 0 0 Q (F0 m 49 ls [])) (fun q o hit Kn Kt => w_i_X2_splitUp_5 C  hit Kn Kt) n q0 u hq Kt
def f_X2_splitUp (S : St) (a1 : Int32) : Option (St) :=
  bd (iter (fun q => i_X2_splitUp_5 q.1 q.2.1 q.2.2) BIG (S, a1, (0 : Int32))) fun q5 => some q5.1
set_option maxHeartbeats 4000000 in
set_option maxRecDepth 100000 in
theorem w_f_X2_splitUp {G : Geo} {p : Program} {l : Launch} {e : Env} {s : State} {m : MethodId} {args : Array Value} {below : List Frame} {meth : Method} {c : Code} {A : Nat → Prop} {H0 : Heap} {Q : State → Prop} (C : Cx G RX2 cX2_splitUp 6 p s m args c) {S : St} {a1 : Int32} {o : St} (h : f_X2_splitUp S a1 = some o) (K : KV 37 eX G A H0 cX2_splitUp p l e 1 s m args below meth c Q o) : ∀ (H : Heap) (locs : List Loc) (ls : Array Slot), HX G A H0 S H locs → lv_has ls 6 [(0, .ref (adr G 3)), (1, .ref (adr G 1)), (2, .int a1)] → W p l e (rmK 1) s m args below meth c H locs 0 0 Q (F0 m 0 ls []) := by
  obtain ⟨hx, hb, -⟩ := id C
  intro H locs ls hW hl
  unfold f_X2_splitUp at h
  refine lv_iload_n hx hb dX2_splitUp_0 rfl (lv_at hl 2 rfl) ?_
  refine lv_istore_n (lv' := [(3, .int a1), (0, .ref (adr G 3)), (1, .ref (adr G 1)), (2, .int a1)]) hx hb dX2_splitUp_1 rfl hl (by decide) rfl (fun ls hl => ?_)
  refine lv_iconst (v := 0) hx hb dX2_splitUp_2 (by decide) ?_
  refine lv_istore (lv' := [(4, .int ((0 : Int32))), (3, .int a1), (0, .ref (adr G 3)), (1, .ref (adr G 1)), (2, .int a1)]) hx hb dX2_splitUp_3 hl (by decide) rfl (fun ls hl => ?_)
  obtain ⟨q5, q5h, h⟩ := bd_some h
  refine l_i_X2_splitUp_5 C  q5h ?_ _ _ _ hW (lv_sub hl [2, 3, 1, 0] rfl)
  intro H locs ls hW hl
  obtain rfl := Option.some.inj h
  exact K _ _ _ _ dX2_splitUp_49 hW
set_option maxRecDepth 100000 in
theorem c_X2_splitUp (l : Launch) (G : Geo) {S : St} {a1 : Int32} {o : St} (h : f_X2_splitUp S a1 = some o) : MV 37 eX G l yX2_splitUp cX2_splitUp 6 none 1 [.ref (adr G 3), .ref (adr G 1), .int a1] S o :=
  mV_of (by decide +kernel) (Nat.le_of_ble_eq_true rfl) (fun p e s m below meth c A H0 Q C K => w_f_X2_splitUp C h K)
def i_X2_spread_18 (S : St) (x2 : Int32) (x3 : Int32) (x4 : Int32) : Option ((St × Int32) ⊕ (St × Int32)) :=
  if x3 ≤ x4 then (some (.inr (S, x4))) else (if ((3125 : Int32)) ≤ x4 then (some (.inr (S, x4))) else (ck (okx x4 3125) <| some (.inl (up S 31 (ix x4) ((-9 : Int32)), x4 + (1 : Int32)))))
set_option maxHeartbeats 4000000 in
set_option maxRecDepth 100000 in
theorem w_i_X2_spread_18 {G : Geo} {p : Program} {l : Launch} {e : Env} {s : State} {m : MethodId} {args : Array Value} {below : List Frame} {meth : Method} {c : Code} {A : Nat → Prop} {H0 : Heap} {Q : State → Prop} (C : Cx G RX2 cX2_spread 7 p s m args c) {S : St} {x2 : Int32} {x3 : Int32} {x4 : Int32} {o : (St × Int32) ⊕ (St × Int32)} (h : i_X2_spread_18 S x2 x3 x4 = some o) (Kn : ∀ q, o = .inl q → ∀ (H : Heap) (locs : List Loc) (ls : Array Slot), HX G A H0 q.1 H locs → lv_has ls 7 [(0, .ref (adr G 3)), (1, .ref (adr G 1)), (2, .int x2), (3, .int x3), (4, .int (q.2))] → W p l e (rmK 4) s m args below meth c H locs 0 0 Q (F0 m 18 ls [])) (Kt : ∀ q, o = .inr q → ∀ (H : Heap) (locs : List Loc) (ls : Array Slot), HX G A H0 q.1 H locs → lv_has ls 7 [(0, .ref (adr G 3)), (1, .ref (adr G 1)), (2, .int x2)] → W p l e (rmK 4) s m args below meth c H locs 0 0 Q (F0 m 47 ls [])) : ∀ (H : Heap) (locs : List Loc) (ls : Array Slot), HX G A H0 S H locs → lv_has ls 7 [(0, .ref (adr G 3)), (1, .ref (adr G 1)), (2, .int x2), (3, .int x3), (4, .int x4)] → W p l e (rmK 4) s m args below meth c H locs 0 0 Q (F0 m 18 ls []) := by
  obtain ⟨hx, hb, -⟩ := id C
  intro H locs ls hW hl
  unfold i_X2_spread_18 at h
  refine lv_iload hx hb dX2_spread_18 (lv_at hl 4 rfl) ?_
  refine lv_iload_n hx hb dX2_spread_20 rfl (lv_at hl 3 rfl) ?_
  refine lv_icmp_ge (tgt := 47) hx hb dX2_spread_21 (by decide) (fun b21 => ?_) (fun b21 => ?_)
  · have h := it_t b21 h
    obtain rfl := Option.some.inj h
    exact Kt _ rfl _ _ _ hW (lv_sub hl [0, 1, 2] rfl)
  · have h := it_f b21 h
    refine lv_iload hx hb dX2_spread_24 (lv_at hl 4 rfl) ?_
    refine lv_sipush (v := 3125) hx hb dX2_spread_26 (by decide) ?_
    refine lv_icmp_ge (tgt := 47) hx hb dX2_spread_29 (by decide) (fun b29 => ?_) (fun b29 => ?_)
    · have h := it_t b29 h
      obtain rfl := Option.some.inj h
      exact Kt _ rfl _ _ _ hW (lv_sub hl [0, 1, 2] rfl)
    · have h := it_f b29 h
      refine lv_aload_n hx hb dX2_spread_32 rfl (lv_at hl 0 rfl) ?_
      refine gf_RX2_23 C hW dX2_spread_33 ?_
      refine lv_iload hx hb dX2_spread_36 (lv_at hl 4 rfl) ?_
      refine lv_bipush (v := (-9)) hx hb dX2_spread_38 (by decide) ?_
      obtain ⟨g40, h⟩ := ck_some h
      refine x_iast C hW (k := 31) (n := 3125) (by decide) (fun _ => rfl) g40 dX2_spread_40 (fun H locs hW => ?_)
      refine lv_iinc (v := (x4 + (1 : Int32))) (lv' := [(4, .int (x4 + (1 : Int32))), (0, .ref (adr G 3)), (1, .ref (adr G 1)), (2, .int x2), (3, .int x3)]) hx hb dX2_spread_41 hl (k := 4) rfl rfl (by decide) rfl (fun ls hl => ?_)
      refine lv_goto (tgt := 18) hx hb dX2_spread_44 (by decide) ?_
      obtain rfl := Option.some.inj h
      exact Kn _ rfl _ _ _ hW (lv_sub hl [1, 2, 3, 4, 0] rfl)
set_option maxHeartbeats 4000000 in
set_option maxRecDepth 100000 in
theorem l_i_X2_spread_18 {G : Geo} {p : Program} {l : Launch} {e : Env} {s : State} {m : MethodId} {args : Array Value} {below : List Frame} {meth : Method} {c : Code} {A : Nat → Prop} {H0 : Heap} {Q : State → Prop} (C : Cx G RX2 cX2_spread 7 p s m args c) {x2 : Int32} {x3 : Int32} {n : Nat} {q0 : St × Int32} {u : St × Int32} (hq : iter (fun q : St × Int32 => i_X2_spread_18 q.1 x2 x3 q.2) n q0 = some u) (Kt : (fun q : St × Int32 => ∀ (H : Heap) (locs : List Loc) (ls : Array Slot), HX G A H0 q.1 H locs → lv_has ls 7 [(0, .ref (adr G 3)), (1, .ref (adr G 1)), (2, .int x2)] → W p l e (rmK 4) s m args below meth c H locs 0 0 Q (F0 m 47 ls [])) u) : (fun q : St × Int32 => ∀ (H : Heap) (locs : List Loc) (ls : Array Slot), HX G A H0 q.1 H locs → lv_has ls 7 [(0, .ref (adr G 3)), (1, .ref (adr G 1)), (2, .int x2), (3, .int x3), (4, .int (q.2))] → W p l e (rmK 4) s m args below meth c H locs 0 0 Q (F0 m 18 ls [])) q0 :=
  iter_W (P := fun q : St × Int32 => ∀ (H : Heap) (locs : List Loc) (ls : Array Slot), HX G A H0 q.1 H locs → lv_has ls 7 [(0, .ref (adr G 3)), (1, .ref (adr G 1)), (2, .int x2), (3, .int x3), (4, .int (q.2))] → W p l e (rmK 4) s m args below meth c H locs 0 0 Q (F0 m 18 ls [])) (K := fun q : St × Int32 => ∀ (H : Heap) (locs : List Loc) (ls : Array Slot), HX G A H0 q.1 H locs → lv_has ls 7 [(0, .ref (adr G 3)), (1, .ref (adr G 1)), (2, .int x2)] → W p l e (rmK 4) s m args below meth c H locs 0 0 Q (F0 m 47 ls [])) (fun q o hit Kn Kt => w_i_X2_spread_18 C  hit Kn Kt) n q0 u hq Kt
def i_X2_spread_97 (S : St) (x2 : Int32) (x4 : Int32) (x5 : Int32) (x6 : Int32) : Option ((St × Int32) ⊕ (St × Int32)) :=
  if (S 1 3) ≤ x6 then (some (.inr (S, x6))) else (if ((shr32 x2 x6) &&& ((1 : Int32))) = ((1 : Int32)) then (bd (f_X2_numberBy S x6 ((1 : Int32))) fun r122 => bd (f_X2_fewestTo S x5) fun r128 => bd (f_X2_meet S r122 (r128 + ((1 : Int32)))) fun r133 => some (.inl (r133, x6 + (1 : Int32)))) else (some (.inl (S, x6 + (1 : Int32)))))
set_option maxHeartbeats 4000000 in
set_option maxRecDepth 100000 in
theorem w_i_X2_spread_97 {G : Geo} {p : Program} {l : Launch} {e : Env} {s : State} {m : MethodId} {args : Array Value} {below : List Frame} {meth : Method} {c : Code} {A : Nat → Prop} {H0 : Heap} {Q : State → Prop} (C : Cx G RX2 cX2_spread 7 p s m args c) {S : St} {x2 : Int32} {x4 : Int32} {x5 : Int32} {x6 : Int32} {o : (St × Int32) ⊕ (St × Int32)} (h : i_X2_spread_97 S x2 x4 x5 x6 = some o) (Kn : ∀ q, o = .inl q → ∀ (H : Heap) (locs : List Loc) (ls : Array Slot), HX G A H0 q.1 H locs → lv_has ls 7 [(0, .ref (adr G 3)), (1, .ref (adr G 1)), (2, .int x2), (4, .int x4), (5, .int x5), (6, .int (q.2))] → W p l e (rmK 4) s m args below meth c H locs 0 0 Q (F0 m 97 ls [])) (Kt : ∀ q, o = .inr q → ∀ (H : Heap) (locs : List Loc) (ls : Array Slot), HX G A H0 q.1 H locs → lv_has ls 7 [(0, .ref (adr G 3)), (1, .ref (adr G 1)), (2, .int x2), (4, .int x4)] → W p l e (rmK 4) s m args below meth c H locs 0 0 Q (F0 m 142 ls [])) : ∀ (H : Heap) (locs : List Loc) (ls : Array Slot), HX G A H0 S H locs → lv_has ls 7 [(0, .ref (adr G 3)), (1, .ref (adr G 1)), (2, .int x2), (4, .int x4), (5, .int x5), (6, .int x6)] → W p l e (rmK 4) s m args below meth c H locs 0 0 Q (F0 m 97 ls []) := by
  obtain ⟨hx, hb, -⟩ := id C
  intro H locs ls hW hl
  unfold i_X2_spread_97 at h
  refine lv_iload hx hb dX2_spread_97 (lv_at hl 5 rfl) ?_
  refine lv_aload_n hx hb dX2_spread_99 rfl (lv_at hl 1 rfl) ?_
  refine gf_RX2_57 C hW dX2_spread_100 ?_
  refine lv_icmp_ge (tgt := 142) hx hb dX2_spread_103 (by decide) (fun b103 => ?_) (fun b103 => ?_)
  · have h := it_t b103 h
    obtain rfl := Option.some.inj h
    exact Kt _ rfl _ _ _ hW (lv_sub hl [0, 1, 2, 3] rfl)
  · have h := it_f b103 h
    refine lv_iload_n hx hb dX2_spread_106 rfl (lv_at hl 2 rfl) ?_
    refine lv_iload hx hb dX2_spread_107 (lv_at hl 5 rfl) ?_
    refine lv_ishr hx hb dX2_spread_109 ?_
    refine lv_iconst (v := 1) hx hb dX2_spread_110 (by decide) ?_
    refine lv_iand hx hb dX2_spread_111 ?_
    refine lv_iconst (v := 1) hx hb dX2_spread_112 (by decide) ?_
    refine lv_icmp_ne (tgt := 136) hx hb dX2_spread_113 (by decide) (fun b113 => ?_) (fun b113 => ?_)
    · have h := it_f b113 h
      refine lv_iinc (v := (x6 + (1 : Int32))) (lv' := [(6, .int (x6 + (1 : Int32))), (0, .ref (adr G 3)), (1, .ref (adr G 1)), (2, .int x2), (4, .int x4), (5, .int x5)]) hx hb dX2_spread_136 hl (k := 5) rfl rfl (by decide) rfl (fun ls hl => ?_)
      refine lv_goto (tgt := 97) hx hb dX2_spread_139 (by decide) ?_
      obtain rfl := Option.some.inj h
      exact Kn _ rfl _ _ _ hW (lv_sub hl [1, 2, 3, 4, 5, 0] rfl)
    · have h := it_t b113 h
      refine lv_aload_n hx hb dX2_spread_116 rfl (lv_at hl 0 rfl) ?_
      refine lv_aload_n hx hb dX2_spread_117 rfl (lv_at hl 0 rfl) ?_
      refine lv_aload_n hx hb dX2_spread_118 rfl (lv_at hl 1 rfl) ?_
      refine lv_iload hx hb dX2_spread_119 (lv_at hl 5 rfl) ?_
      refine lv_iconst (v := 1) hx hb dX2_spread_121 (by decide) ?_
      obtain ⟨r122, r122h, h⟩ := bd_some h
      refine x_backI hW (x_runV (As := [.ref (adr G 1), .int x6, .int ((1 : Int32))]) (rest := [.ref (adr G 3)]) C hW (c_X2_numberBy l G r122h H.size) cv_RX2_60 rv_X2 hl.1 rfl rfl ⟨by decide, by decide⟩ (Nat.le_of_ble_eq_true rfl) ⟨Nat.zero_le _, Nat.zero_le _⟩ dX2_spread_122) (fun H locs hW => ?_)
      refine lv_aload_n hx hb dX2_spread_125 rfl (lv_at hl 0 rfl) ?_
      refine lv_iload hx hb dX2_spread_126 (lv_at hl 4 rfl) ?_
      obtain ⟨r128, r128h, h⟩ := bd_some h
      refine x_backI hW (x_runV (As := [.int x5]) (rest := [.int r122, .ref (adr G 3)]) C hW (c_X2_fewestTo l G r128h H.size) cv_RX2_50 rv_X2 hl.1 rfl rfl ⟨by decide, by decide⟩ (Nat.le_of_ble_eq_true rfl) ⟨Nat.zero_le _, Nat.zero_le _⟩ dX2_spread_128) (fun H locs hW => ?_)
      refine lv_iconst (v := 1) hx hb dX2_spread_131 (by decide) ?_
      refine lv_iadd hx hb dX2_spread_132 ?_
      obtain ⟨r133, r133h, h⟩ := bd_some h
      refine x_backV hW (x_runV (As := [.int r122, .int (r128 + ((1 : Int32)))]) (rest := []) C hW (c_X2_meet l G r133h H.size) cv_RX2_72 rv_X2 hl.1 rfl rfl ⟨by decide, by decide⟩ (Nat.le_of_ble_eq_true rfl) ⟨Nat.zero_le _, Nat.zero_le _⟩ dX2_spread_133) (fun H locs hW => ?_)
      refine lv_iinc (v := (x6 + (1 : Int32))) (lv' := [(6, .int (x6 + (1 : Int32))), (0, .ref (adr G 3)), (1, .ref (adr G 1)), (2, .int x2), (4, .int x4), (5, .int x5)]) hx hb dX2_spread_136 hl (k := 5) rfl rfl (by decide) rfl (fun ls hl => ?_)
      refine lv_goto (tgt := 97) hx hb dX2_spread_139 (by decide) ?_
      obtain rfl := Option.some.inj h
      exact Kn _ rfl _ _ _ hW (lv_sub hl [1, 2, 3, 4, 5, 0] rfl)
set_option maxHeartbeats 4000000 in
set_option maxRecDepth 100000 in
theorem l_i_X2_spread_97 {G : Geo} {p : Program} {l : Launch} {e : Env} {s : State} {m : MethodId} {args : Array Value} {below : List Frame} {meth : Method} {c : Code} {A : Nat → Prop} {H0 : Heap} {Q : State → Prop} (C : Cx G RX2 cX2_spread 7 p s m args c) {x2 : Int32} {x4 : Int32} {x5 : Int32} {n : Nat} {q0 : St × Int32} {u : St × Int32} (hq : iter (fun q : St × Int32 => i_X2_spread_97 q.1 x2 x4 x5 q.2) n q0 = some u) (Kt : (fun q : St × Int32 => ∀ (H : Heap) (locs : List Loc) (ls : Array Slot), HX G A H0 q.1 H locs → lv_has ls 7 [(0, .ref (adr G 3)), (1, .ref (adr G 1)), (2, .int x2), (4, .int x4)] → W p l e (rmK 4) s m args below meth c H locs 0 0 Q (F0 m 142 ls [])) u) : (fun q : St × Int32 => ∀ (H : Heap) (locs : List Loc) (ls : Array Slot), HX G A H0 q.1 H locs → lv_has ls 7 [(0, .ref (adr G 3)), (1, .ref (adr G 1)), (2, .int x2), (4, .int x4), (5, .int x5), (6, .int (q.2))] → W p l e (rmK 4) s m args below meth c H locs 0 0 Q (F0 m 97 ls [])) q0 :=
  iter_W (P := fun q : St × Int32 => ∀ (H : Heap) (locs : List Loc) (ls : Array Slot), HX G A H0 q.1 H locs → lv_has ls 7 [(0, .ref (adr G 3)), (1, .ref (adr G 1)), (2, .int x2), (4, .int x4), (5, .int x5), (6, .int (q.2))] → W p l e (rmK 4) s m args below meth c H locs 0 0 Q (F0 m 97 ls [])) (K := fun q : St × Int32 => ∀ (H : Heap) (locs : List Loc) (ls : Array Slot), HX G A H0 q.1 H locs → lv_has ls 7 [(0, .ref (adr G 3)), (1, .ref (adr G 1)), (2, .int x2), (4, .int x4)] → W p l e (rmK 4) s m args below meth c H locs 0 0 Q (F0 m 142 ls [])) (fun q o hit Kn Kt => w_i_X2_spread_97 C  hit Kn Kt) n q0 u hq Kt
def i_X2_spread_61 (S : St) (x2 : Int32) (x4 : Int32) : Option ((St × Int32) ⊕ (St × Int32)) :=
  if (S 3 5) ≤ x4 then (some (.inr (S, x4))) else (if ((3125 : Int32)) ≤ x4 then (some (.inr (S, x4))) else (ck (okx x4 3125) <| bd (f_X2_splitUp S (S 32 (ix x4))) fun r91 => bd (iter (fun q => i_X2_spread_97 q.1 x2 x4 (S 32 (ix x4)) q.2) BIG (r91, (0 : Int32))) fun q97 => some (.inl (q97.1, x4 + (1 : Int32)))))
set_option maxHeartbeats 4000000 in
set_option maxRecDepth 100000 in
theorem w_i_X2_spread_61 {G : Geo} {p : Program} {l : Launch} {e : Env} {s : State} {m : MethodId} {args : Array Value} {below : List Frame} {meth : Method} {c : Code} {A : Nat → Prop} {H0 : Heap} {Q : State → Prop} (C : Cx G RX2 cX2_spread 7 p s m args c) {S : St} {x2 : Int32} {x4 : Int32} {o : (St × Int32) ⊕ (St × Int32)} (h : i_X2_spread_61 S x2 x4 = some o) (Kn : ∀ q, o = .inl q → ∀ (H : Heap) (locs : List Loc) (ls : Array Slot), HX G A H0 q.1 H locs → lv_has ls 7 [(0, .ref (adr G 3)), (1, .ref (adr G 1)), (2, .int x2), (4, .int (q.2))] → W p l e (rmK 4) s m args below meth c H locs 0 0 Q (F0 m 61 ls [])) (Kt : ∀ q, o = .inr q → ∀ (H : Heap) (locs : List Loc) (ls : Array Slot), HX G A H0 q.1 H locs → lv_has ls 7 [(0, .ref (adr G 3)), (2, .int x2)] → W p l e (rmK 4) s m args below meth c H locs 0 0 Q (F0 m 148 ls [])) : ∀ (H : Heap) (locs : List Loc) (ls : Array Slot), HX G A H0 S H locs → lv_has ls 7 [(0, .ref (adr G 3)), (1, .ref (adr G 1)), (2, .int x2), (4, .int x4)] → W p l e (rmK 4) s m args below meth c H locs 0 0 Q (F0 m 61 ls []) := by
  obtain ⟨hx, hb, -⟩ := id C
  intro H locs ls hW hl
  unfold i_X2_spread_61 at h
  refine lv_iload hx hb dX2_spread_61 (lv_at hl 3 rfl) ?_
  refine lv_aload_n hx hb dX2_spread_63 rfl (lv_at hl 0 rfl) ?_
  refine gf_RX2_37 C hW dX2_spread_64 ?_
  refine lv_icmp_ge (tgt := 148) hx hb dX2_spread_67 (by decide) (fun b67 => ?_) (fun b67 => ?_)
  · have h := it_t b67 h
    obtain rfl := Option.some.inj h
    exact Kt _ rfl _ _ _ hW (lv_sub hl [0, 2] rfl)
  · have h := it_f b67 h
    refine lv_iload hx hb dX2_spread_70 (lv_at hl 3 rfl) ?_
    refine lv_sipush (v := 3125) hx hb dX2_spread_72 (by decide) ?_
    refine lv_icmp_ge (tgt := 148) hx hb dX2_spread_75 (by decide) (fun b75 => ?_) (fun b75 => ?_)
    · have h := it_t b75 h
      obtain rfl := Option.some.inj h
      exact Kt _ rfl _ _ _ hW (lv_sub hl [0, 2] rfl)
    · have h := it_f b75 h
      refine lv_aload_n hx hb dX2_spread_78 rfl (lv_at hl 0 rfl) ?_
      refine gf_RX2_26 C hW dX2_spread_79 ?_
      refine lv_iload hx hb dX2_spread_82 (lv_at hl 3 rfl) ?_
      obtain ⟨g84, h⟩ := ck_some h
      refine x_iald C hW (k := 32) (n := 3125) (by decide) (fun _ => rfl) g84 dX2_spread_84 ?_
      refine lv_istore (lv' := [(5, .int (S 32 (ix x4))), (0, .ref (adr G 3)), (1, .ref (adr G 1)), (2, .int x2), (4, .int x4)]) hx hb dX2_spread_85 hl (by decide) rfl (fun ls hl => ?_)
      refine lv_aload_n hx hb dX2_spread_87 rfl (lv_at hl 1 rfl) ?_
      refine lv_aload_n hx hb dX2_spread_88 rfl (lv_at hl 2 rfl) ?_
      refine lv_iload hx hb dX2_spread_89 (lv_at hl 0 rfl) ?_
      obtain ⟨r91, r91h, h⟩ := bd_some h
      refine x_backV hW (x_runV (As := [.ref (adr G 1), .int (S 32 (ix x4))]) (rest := []) C hW (c_X2_splitUp l G r91h H.size) cv_RX2_54 rv_X2 hl.1 rfl rfl ⟨by decide, by decide⟩ (Nat.le_of_ble_eq_true rfl) ⟨Nat.zero_le _, Nat.zero_le _⟩ dX2_spread_91) (fun H locs hW => ?_)
      refine lv_iconst (v := 0) hx hb dX2_spread_94 (by decide) ?_
      refine lv_istore (lv' := [(6, .int ((0 : Int32))), (5, .int (S 32 (ix x4))), (0, .ref (adr G 3)), (1, .ref (adr G 1)), (2, .int x2), (4, .int x4)]) hx hb dX2_spread_95 hl (by decide) rfl (fun ls hl => ?_)
      obtain ⟨q97, q97h, h⟩ := bd_some h
      refine l_i_X2_spread_97 C  q97h ?_ _ _ _ hW (lv_sub hl [2, 3, 4, 5, 1, 0] rfl)
      intro H locs ls hW hl
      refine lv_iinc (v := (x4 + (1 : Int32))) (lv' := [(4, .int (x4 + (1 : Int32))), (0, .ref (adr G 3)), (1, .ref (adr G 1)), (2, .int x2)]) hx hb dX2_spread_142 hl (k := 3) rfl rfl (by decide) rfl (fun ls hl => ?_)
      refine lv_goto (tgt := 61) hx hb dX2_spread_145 (by decide) ?_
      obtain rfl := Option.some.inj h
      exact Kn _ rfl _ _ _ hW (lv_sub hl [1, 2, 3, 0] rfl)
set_option maxHeartbeats 4000000 in
set_option maxRecDepth 100000 in
theorem l_i_X2_spread_61 {G : Geo} {p : Program} {l : Launch} {e : Env} {s : State} {m : MethodId} {args : Array Value} {below : List Frame} {meth : Method} {c : Code} {A : Nat → Prop} {H0 : Heap} {Q : State → Prop} (C : Cx G RX2 cX2_spread 7 p s m args c) {x2 : Int32} {n : Nat} {q0 : St × Int32} {u : St × Int32} (hq : iter (fun q : St × Int32 => i_X2_spread_61 q.1 x2 q.2) n q0 = some u) (Kt : (fun q : St × Int32 => ∀ (H : Heap) (locs : List Loc) (ls : Array Slot), HX G A H0 q.1 H locs → lv_has ls 7 [(0, .ref (adr G 3)), (2, .int x2)] → W p l e (rmK 4) s m args below meth c H locs 0 0 Q (F0 m 148 ls [])) u) : (fun q : St × Int32 => ∀ (H : Heap) (locs : List Loc) (ls : Array Slot), HX G A H0 q.1 H locs → lv_has ls 7 [(0, .ref (adr G 3)), (1, .ref (adr G 1)), (2, .int x2), (4, .int (q.2))] → W p l e (rmK 4) s m args below meth c H locs 0 0 Q (F0 m 61 ls [])) q0 :=
  iter_W (P := fun q : St × Int32 => ∀ (H : Heap) (locs : List Loc) (ls : Array Slot), HX G A H0 q.1 H locs → lv_has ls 7 [(0, .ref (adr G 3)), (1, .ref (adr G 1)), (2, .int x2), (4, .int (q.2))] → W p l e (rmK 4) s m args below meth c H locs 0 0 Q (F0 m 61 ls [])) (K := fun q : St × Int32 => ∀ (H : Heap) (locs : List Loc) (ls : Array Slot), HX G A H0 q.1 H locs → lv_has ls 7 [(0, .ref (adr G 3)), (2, .int x2)] → W p l e (rmK 4) s m args below meth c H locs 0 0 Q (F0 m 148 ls [])) (fun q o hit Kn Kt => w_i_X2_spread_61 C  hit Kn Kt) n q0 u hq Kt
def j_X2_spread_47 (S : St) (x2 : Int32) : Option (St) :=
  bd (f_X2_meet (up S 3 5 ((0 : Int32))) ((0 : Int32)) ((0 : Int32))) fun r55 => bd (iter (fun q => i_X2_spread_61 q.1 x2 q.2) BIG (r55, (0 : Int32))) fun q61 => some (up q61.1 3 6 x2)
set_option maxHeartbeats 4000000 in
set_option maxRecDepth 100000 in
theorem w_j_X2_spread_47 {G : Geo} {p : Program} {l : Launch} {e : Env} {s : State} {m : MethodId} {args : Array Value} {below : List Frame} {meth : Method} {c : Code} {A : Nat → Prop} {H0 : Heap} {Q : State → Prop} (C : Cx G RX2 cX2_spread 7 p s m args c) {S : St} {x2 : Int32} {o : St} (h : j_X2_spread_47 S x2 = some o) (K : KV 37 eX G A H0 cX2_spread p l e 4 s m args below meth c Q o) : ∀ (H : Heap) (locs : List Loc) (ls : Array Slot), HX G A H0 S H locs → lv_has ls 7 [(0, .ref (adr G 3)), (1, .ref (adr G 1)), (2, .int x2)] → W p l e (rmK 4) s m args below meth c H locs 0 0 Q (F0 m 47 ls []) := by
  obtain ⟨hx, hb, -⟩ := id C
  intro H locs ls hW hl
  unfold j_X2_spread_47 at h
  refine lv_aload_n hx hb dX2_spread_47 rfl (lv_at hl 0 rfl) ?_
  refine lv_iconst (v := 0) hx hb dX2_spread_48 (by decide) ?_
  refine pf_RX2_37 C hW dX2_spread_49 (fun H locs hW => ?_)
  refine lv_aload_n hx hb dX2_spread_52 rfl (lv_at hl 0 rfl) ?_
  refine lv_iconst (v := 0) hx hb dX2_spread_53 (by decide) ?_
  refine lv_iconst (v := 0) hx hb dX2_spread_54 (by decide) ?_
  obtain ⟨r55, r55h, h⟩ := bd_some h
  refine x_backV hW (x_runV (As := [.int ((0 : Int32)), .int ((0 : Int32))]) (rest := []) C hW (c_X2_meet l G r55h H.size) cv_RX2_72 rv_X2 hl.1 rfl rfl ⟨by decide, by decide⟩ (Nat.le_of_ble_eq_true rfl) ⟨Nat.zero_le _, Nat.zero_le _⟩ dX2_spread_55) (fun H locs hW => ?_)
  refine lv_iconst (v := 0) hx hb dX2_spread_58 (by decide) ?_
  refine lv_istore (lv' := [(4, .int ((0 : Int32))), (0, .ref (adr G 3)), (1, .ref (adr G 1)), (2, .int x2)]) hx hb dX2_spread_59 hl (by decide) rfl (fun ls hl => ?_)
  obtain ⟨q61, q61h, h⟩ := bd_some h
  refine l_i_X2_spread_61 C  q61h ?_ _ _ _ hW (lv_sub hl [1, 2, 3, 0] rfl)
  intro H locs ls hW hl
  refine lv_aload_n hx hb dX2_spread_148 rfl (lv_at hl 0 rfl) ?_
  refine lv_iload_n hx hb dX2_spread_149 rfl (lv_at hl 1 rfl) ?_
  refine pf_RX2_29 C hW dX2_spread_150 (fun H locs hW => ?_)
  obtain rfl := Option.some.inj h
  exact K _ _ _ _ dX2_spread_153 hW
def f_X2_spread (S : St) (a1 : Int32) : Option (St) :=
  if a1 = (S 3 6) then (some S) else (bd (f_X2_measure S) fun r11 => bd (iter (fun q => i_X2_spread_18 q.1 a1 r11.1 q.2) BIG (r11.2, (0 : Int32))) fun q18 => j_X2_spread_47 q18.1 a1)
set_option maxHeartbeats 4000000 in
set_option maxRecDepth 100000 in
theorem w_f_X2_spread {G : Geo} {p : Program} {l : Launch} {e : Env} {s : State} {m : MethodId} {args : Array Value} {below : List Frame} {meth : Method} {c : Code} {A : Nat → Prop} {H0 : Heap} {Q : State → Prop} (C : Cx G RX2 cX2_spread 7 p s m args c) {S : St} {a1 : Int32} {o : St} (h : f_X2_spread S a1 = some o) (K : KV 37 eX G A H0 cX2_spread p l e 4 s m args below meth c Q o) : ∀ (H : Heap) (locs : List Loc) (ls : Array Slot), HX G A H0 S H locs → lv_has ls 7 [(0, .ref (adr G 3)), (1, .ref (adr G 1)), (2, .int a1)] → W p l e (rmK 4) s m args below meth c H locs 0 0 Q (F0 m 0 ls []) := by
  obtain ⟨hx, hb, -⟩ := id C
  intro H locs ls hW hl
  unfold f_X2_spread at h
  refine lv_iload_n hx hb dX2_spread_0 rfl (lv_at hl 2 rfl) ?_
  refine lv_aload_n hx hb dX2_spread_1 rfl (lv_at hl 0 rfl) ?_
  refine gf_RX2_29 C hW dX2_spread_2 ?_
  refine lv_icmp_ne (tgt := 9) hx hb dX2_spread_5 (by decide) (fun b5 => ?_) (fun b5 => ?_)
  · have h := it_f b5 h
    refine lv_aload_n hx hb dX2_spread_9 rfl (lv_at hl 0 rfl) ?_
    refine lv_aload_n hx hb dX2_spread_10 rfl (lv_at hl 1 rfl) ?_
    obtain ⟨r11, r11h, h⟩ := bd_some h
    refine x_backI hW (x_runV (As := [.ref (adr G 1)]) (rest := []) C hW (c_X2_measure l G r11h H.size) cv_RX2_68 rv_X2 hl.1 rfl rfl ⟨by decide, by decide⟩ (Nat.le_of_ble_eq_true rfl) ⟨Nat.zero_le _, Nat.zero_le _⟩ dX2_spread_11) (fun H locs hW => ?_)
    refine lv_istore_n (lv' := [(3, .int (r11.1)), (0, .ref (adr G 3)), (1, .ref (adr G 1)), (2, .int a1)]) hx hb dX2_spread_14 rfl hl (by decide) rfl (fun ls hl => ?_)
    refine lv_iconst (v := 0) hx hb dX2_spread_15 (by decide) ?_
    refine lv_istore (lv' := [(4, .int ((0 : Int32))), (3, .int (r11.1)), (0, .ref (adr G 3)), (1, .ref (adr G 1)), (2, .int a1)]) hx hb dX2_spread_16 hl (by decide) rfl (fun ls hl => ?_)
    obtain ⟨q18, q18h, h⟩ := bd_some h
    refine l_i_X2_spread_18 C  q18h ?_ _ _ _ hW (lv_sub hl [2, 3, 4, 1, 0] rfl)
    intro H locs ls hW hl
    exact w_j_X2_spread_47 C  h K _ _ _ hW (lv_sub hl [0, 1, 2] rfl)
  · have h := it_t b5 h
    obtain rfl := Option.some.inj h
    exact K _ _ _ _ dX2_spread_8 hW
set_option maxRecDepth 100000 in
theorem c_X2_spread (l : Launch) (G : Geo) {S : St} {a1 : Int32} {o : St} (h : f_X2_spread S a1 = some o) : MV 37 eX G l yX2_spread cX2_spread 7 none 4 [.ref (adr G 3), .ref (adr G 1), .int a1] S o :=
  mV_of (by decide +kernel) (Nat.le_of_ble_eq_true rfl) (fun p e s m below meth c A H0 Q C K => w_f_X2_spread C h K)
def f_X2_manyBy (S : St) (a1 : Int32) : Option (Int32 × St) :=
  bd (f_X2_spread S a1) fun r3 => some (r3 3 5, r3)
set_option maxHeartbeats 4000000 in
set_option maxRecDepth 100000 in
theorem w_f_X2_manyBy {G : Geo} {p : Program} {l : Launch} {e : Env} {s : State} {m : MethodId} {args : Array Value} {below : List Frame} {meth : Method} {c : Code} {A : Nat → Prop} {H0 : Heap} {Q : State → Prop} (C : Cx G RX2 cX2_manyBy 3 p s m args c) {S : St} {a1 : Int32} {o : Int32 × St} (h : f_X2_manyBy S a1 = some o) (K : KI 37 eX G A H0 cX2_manyBy p l e 5 s m args below meth c Q ((o).1) ((o).2)) : ∀ (H : Heap) (locs : List Loc) (ls : Array Slot), HX G A H0 S H locs → lv_has ls 3 [(0, .ref (adr G 3)), (1, .ref (adr G 1)), (2, .int a1)] → W p l e (rmK 5) s m args below meth c H locs 0 0 Q (F0 m 0 ls []) := by
  obtain ⟨hx, hb, -⟩ := id C
  intro H locs ls hW hl
  unfold f_X2_manyBy at h
  refine lv_aload_n hx hb dX2_manyBy_0 rfl (lv_at hl 0 rfl) ?_
  refine lv_aload_n hx hb dX2_manyBy_1 rfl (lv_at hl 1 rfl) ?_
  refine lv_iload_n hx hb dX2_manyBy_2 rfl (lv_at hl 2 rfl) ?_
  obtain ⟨r3, r3h, h⟩ := bd_some h
  refine x_backV hW (x_runV (As := [.ref (adr G 1), .int a1]) (rest := []) C hW (c_X2_spread l G r3h H.size) cv_RX2_33 rv_X2 hl.1 rfl rfl ⟨by decide, by decide⟩ (Nat.le_of_ble_eq_true rfl) ⟨Nat.zero_le _, Nat.zero_le _⟩ dX2_manyBy_3) (fun H locs hW => ?_)
  refine lv_aload_n hx hb dX2_manyBy_6 rfl (lv_at hl 0 rfl) ?_
  refine gf_RX2_37 C hW dX2_manyBy_7 ?_
  obtain rfl := Option.some.inj h
  exact K _ _ _ _ dX2_manyBy_10 hW
set_option maxRecDepth 100000 in
theorem c_X2_manyBy (l : Launch) (G : Geo) {S : St} {a1 : Int32} {o : Int32 × St} (h : f_X2_manyBy S a1 = some o) : MI 37 eX G l yX2_manyBy cX2_manyBy 3 (some .int) 5 [.ref (adr G 3), .ref (adr G 1), .int a1] S o.1 o.2 :=
  mI_of (by decide +kernel) (Nat.le_of_ble_eq_true rfl) (fun p e s m below meth c A H0 Q C K => w_f_X2_manyBy C h K)
def i_X2_numberOf_8 (S : St) (x2 : Nat) (x3 : Int32) (x4 : Int32) (x5 : Int32) : Option ((Int32 × Int32 × Int32) ⊕ (Int32 × Int32 × Int32)) :=
  if (S 1 0) ≤ x5 then (some (.inr (x3, x4, x5))) else (ck (okx x5 (lenX x2)) <| ck (okx x5 5) <| some (.inl (x3 + ((S x2 (ix x5)) * x4), x4 * (S 22 (ix x5)), x5 + (1 : Int32))))
set_option maxHeartbeats 4000000 in
set_option maxRecDepth 100000 in
theorem w_i_X2_numberOf_8 {G : Geo} {p : Program} {l : Launch} {e : Env} {s : State} {m : MethodId} {args : Array Value} {below : List Frame} {meth : Method} {c : Code} {A : Nat → Prop} {H0 : Heap} {Q : State → Prop} (C : Cx G RX2 cX2_numberOf 6 p s m args c) {S : St} {x2 : Nat} {x3 : Int32} {x4 : Int32} {x5 : Int32} {o : (Int32 × Int32 × Int32) ⊕ (Int32 × Int32 × Int32)} (hx2 : arX x2) (h : i_X2_numberOf_8 S x2 x3 x4 x5 = some o) (Kn : ∀ q, o = .inl q → ∀ (H : Heap) (locs : List Loc) (ls : Array Slot), HX G A H0 S H locs → lv_has ls 6 [(1, .ref (adr G 1)), (2, .ref (adr G x2)), (3, .int (q.1)), (4, .int (q.2.1)), (5, .int (q.2.2))] → W p l e (rmK 0) s m args below meth c H locs 0 0 Q (F0 m 8 ls [])) (Kt : ∀ q, o = .inr q → ∀ (H : Heap) (locs : List Loc) (ls : Array Slot), HX G A H0 S H locs → lv_has ls 6 [(3, .int (q.1))] → W p l e (rmK 0) s m args below meth c H locs 0 0 Q (F0 m 45 ls [])) : ∀ (H : Heap) (locs : List Loc) (ls : Array Slot), HX G A H0 S H locs → lv_has ls 6 [(1, .ref (adr G 1)), (2, .ref (adr G x2)), (3, .int x3), (4, .int x4), (5, .int x5)] → W p l e (rmK 0) s m args below meth c H locs 0 0 Q (F0 m 8 ls []) := by
  obtain ⟨hx, hb, -⟩ := id C
  intro H locs ls hW hl
  unfold i_X2_numberOf_8 at h
  refine lv_iload hx hb dX2_numberOf_8 (lv_at hl 4 rfl) ?_
  refine lv_aload_n hx hb dX2_numberOf_10 rfl (lv_at hl 0 rfl) ?_
  refine gf_RX2_76 C hW dX2_numberOf_11 ?_
  refine lv_icmp_ge (tgt := 45) hx hb dX2_numberOf_14 (by decide) (fun b14 => ?_) (fun b14 => ?_)
  · have h := it_t b14 h
    obtain rfl := Option.some.inj h
    exact Kt _ rfl _ _ _ hW (lv_sub hl [2] rfl)
  · have h := it_f b14 h
    refine lv_iload_n hx hb dX2_numberOf_17 rfl (lv_at hl 2 rfl) ?_
    refine lv_aload_n hx hb dX2_numberOf_18 rfl (lv_at hl 1 rfl) ?_
    refine lv_iload hx hb dX2_numberOf_19 (lv_at hl 4 rfl) ?_
    obtain ⟨g21, h⟩ := ck_some h
    refine x_iald C hW (k := x2) (n := (lenX x2)) hx2.2 (eX_ar hx2) g21 dX2_numberOf_21 ?_
    refine lv_iload hx hb dX2_numberOf_22 (lv_at hl 3 rfl) ?_
    refine lv_imul hx hb dX2_numberOf_24 ?_
    refine lv_iadd hx hb dX2_numberOf_25 ?_
    refine lv_istore_n (lv' := [(3, .int (x3 + ((S x2 (ix x5)) * x4))), (1, .ref (adr G 1)), (2, .ref (adr G x2)), (4, .int x4), (5, .int x5)]) hx hb dX2_numberOf_26 rfl hl (by decide) rfl (fun ls hl => ?_)
    refine lv_iload hx hb dX2_numberOf_27 (lv_at hl 3 rfl) ?_
    refine lv_aload_n hx hb dX2_numberOf_29 rfl (lv_at hl 1 rfl) ?_
    refine gf_RX2_79 C hW dX2_numberOf_30 ?_
    refine lv_iload hx hb dX2_numberOf_33 (lv_at hl 4 rfl) ?_
    obtain ⟨g35, h⟩ := ck_some h
    refine x_iald C hW (k := 22) (n := 5) (by decide) (fun _ => rfl) g35 dX2_numberOf_35 ?_
    refine lv_imul hx hb dX2_numberOf_36 ?_
    refine lv_istore (lv' := [(4, .int (x4 * (S 22 (ix x5)))), (3, .int (x3 + ((S x2 (ix x5)) * x4))), (1, .ref (adr G 1)), (2, .ref (adr G x2)), (5, .int x5)]) hx hb dX2_numberOf_37 hl (by decide) rfl (fun ls hl => ?_)
    refine lv_iinc (v := (x5 + (1 : Int32))) (lv' := [(5, .int (x5 + (1 : Int32))), (4, .int (x4 * (S 22 (ix x5)))), (3, .int (x3 + ((S x2 (ix x5)) * x4))), (1, .ref (adr G 1)), (2, .ref (adr G x2))]) hx hb dX2_numberOf_39 hl (k := 4) rfl rfl (by decide) rfl (fun ls hl => ?_)
    refine lv_goto (tgt := 8) hx hb dX2_numberOf_42 (by decide) ?_
    obtain rfl := Option.some.inj h
    exact Kn _ rfl _ _ _ hW (lv_sub hl [3, 4, 2, 1, 0] rfl)
set_option maxHeartbeats 4000000 in
set_option maxRecDepth 100000 in
theorem l_i_X2_numberOf_8 {G : Geo} {p : Program} {l : Launch} {e : Env} {s : State} {m : MethodId} {args : Array Value} {below : List Frame} {meth : Method} {c : Code} {A : Nat → Prop} {H0 : Heap} {Q : State → Prop} (C : Cx G RX2 cX2_numberOf 6 p s m args c) {S : St} {x2 : Nat} {n : Nat} {q0 : Int32 × Int32 × Int32} {u : Int32 × Int32 × Int32} (hx2 : arX x2) (hq : iter (fun q : Int32 × Int32 × Int32 => i_X2_numberOf_8 S x2 q.1 q.2.1 q.2.2) n q0 = some u) (Kt : (fun q : Int32 × Int32 × Int32 => ∀ (H : Heap) (locs : List Loc) (ls : Array Slot), HX G A H0 S H locs → lv_has ls 6 [(3, .int (q.1))] → W p l e (rmK 0) s m args below meth c H locs 0 0 Q (F0 m 45 ls [])) u) : (fun q : Int32 × Int32 × Int32 => ∀ (H : Heap) (locs : List Loc) (ls : Array Slot), HX G A H0 S H locs → lv_has ls 6 [(1, .ref (adr G 1)), (2, .ref (adr G x2)), (3, .int (q.1)), (4, .int (q.2.1)), (5, .int (q.2.2))] → W p l e (rmK 0) s m args below meth c H locs 0 0 Q (F0 m 8 ls [])) q0 :=
  iter_W (P := fun q : Int32 × Int32 × Int32 => ∀ (H : Heap) (locs : List Loc) (ls : Array Slot), HX G A H0 S H locs → lv_has ls 6 [(1, .ref (adr G 1)), (2, .ref (adr G x2)), (3, .int (q.1)), (4, .int (q.2.1)), (5, .int (q.2.2))] → W p l e (rmK 0) s m args below meth c H locs 0 0 Q (F0 m 8 ls [])) (K := fun q : Int32 × Int32 × Int32 => ∀ (H : Heap) (locs : List Loc) (ls : Array Slot), HX G A H0 S H locs → lv_has ls 6 [(3, .int (q.1))] → W p l e (rmK 0) s m args below meth c H locs 0 0 Q (F0 m 45 ls [])) (fun q o hit Kn Kt => w_i_X2_numberOf_8 C hx2 hit Kn Kt) n q0 u hq Kt
def f_X2_numberOf (S : St) (a1 : Nat) : Option (Int32) :=
  ck (arX a1) <| bd (iter (fun q => i_X2_numberOf_8 S a1 q.1 q.2.1 q.2.2) BIG ((0 : Int32), (1 : Int32), (0 : Int32))) fun q8 => some q8.1
set_option maxHeartbeats 4000000 in
set_option maxRecDepth 100000 in
theorem w_f_X2_numberOf {G : Geo} {p : Program} {l : Launch} {e : Env} {s : State} {m : MethodId} {args : Array Value} {below : List Frame} {meth : Method} {c : Code} {A : Nat → Prop} {H0 : Heap} {Q : State → Prop} (C : Cx G RX2 cX2_numberOf 6 p s m args c) {S : St} {a1 : Nat} {o : Int32} (h : f_X2_numberOf S a1 = some o) (K : KI 37 eX G A H0 cX2_numberOf p l e 0 s m args below meth c Q o S) : ∀ (H : Heap) (locs : List Loc) (ls : Array Slot), HX G A H0 S H locs → lv_has ls 6 [(0, .ref (adr G 3)), (1, .ref (adr G 1)), (2, .ref (adr G a1))] → W p l e (rmK 0) s m args below meth c H locs 0 0 Q (F0 m 0 ls []) := by
  obtain ⟨hx, hb, -⟩ := id C
  intro H locs ls hW hl
  unfold f_X2_numberOf at h
  obtain ⟨ha1, h⟩ := ck_some h
  refine lv_iconst (v := 0) hx hb dX2_numberOf_0 (by decide) ?_
  refine lv_istore_n (lv' := [(3, .int ((0 : Int32))), (0, .ref (adr G 3)), (1, .ref (adr G 1)), (2, .ref (adr G a1))]) hx hb dX2_numberOf_1 rfl hl (by decide) rfl (fun ls hl => ?_)
  refine lv_iconst (v := 1) hx hb dX2_numberOf_2 (by decide) ?_
  refine lv_istore (lv' := [(4, .int ((1 : Int32))), (3, .int ((0 : Int32))), (0, .ref (adr G 3)), (1, .ref (adr G 1)), (2, .ref (adr G a1))]) hx hb dX2_numberOf_3 hl (by decide) rfl (fun ls hl => ?_)
  refine lv_iconst (v := 0) hx hb dX2_numberOf_5 (by decide) ?_
  refine lv_istore (lv' := [(5, .int ((0 : Int32))), (4, .int ((1 : Int32))), (3, .int ((0 : Int32))), (0, .ref (adr G 3)), (1, .ref (adr G 1)), (2, .ref (adr G a1))]) hx hb dX2_numberOf_6 hl (by decide) rfl (fun ls hl => ?_)
  obtain ⟨q8, q8h, h⟩ := bd_some h
  refine l_i_X2_numberOf_8 C ha1 q8h ?_ _ _ _ hW (lv_sub hl [4, 5, 2, 1, 0] rfl)
  intro H locs ls hW hl
  refine lv_iload_n hx hb dX2_numberOf_45 rfl (lv_at hl 0 rfl) ?_
  obtain rfl := Option.some.inj h
  exact K _ _ _ _ dX2_numberOf_46 hW
set_option maxRecDepth 100000 in
theorem c_X2_numberOf (l : Launch) (G : Geo) {S : St} {a1 : Nat} {o : Int32} (h : f_X2_numberOf S a1 = some o) : MI 37 eX G l yX2_numberOf cX2_numberOf 6 (some .int) 0 [.ref (adr G 3), .ref (adr G 1), .ref (adr G a1)] S o S :=
  mI_of (by decide +kernel) (Nat.le_of_ble_eq_true rfl) (fun p e s m below meth c A H0 Q C K => w_f_X2_numberOf C h K)
def i_X2_placeInRow_32 (S : St) (x3 : Int32) (x5 : Int32) (x4 : Int32) (x6 : Int32) (x7 : Int32) : Option ((St × Int32 × Int32 × Int32) ⊕ ((St × Int32 × Int32 × Int32) ⊕ (Int32 × St))) :=
  if x3 < x7 then (some (.inr (.inl (S, x4, x6, x7)))) else (if x7 < x5 then (bd (f_X2_splitUp S x4) fun r52 => bd (f_X2_firstThatLeaves r52 ((x5 - x7) - ((1 : Int32)))) fun r64 => if r64 = ((-9 : Int32)) then (some (.inr (.inr ((-9 : Int32), r52)))) else (bd (f_X2_numberBy r52 r64 ((-1 : Int32))) fun r84 => some (.inl (r52, r84, r64, x7 + (1 : Int32))))) else (some (.inr (.inr ((-9 : Int32), S)))))
set_option maxHeartbeats 4000000 in
set_option maxRecDepth 100000 in
theorem w_i_X2_placeInRow_32 {G : Geo} {p : Program} {l : Launch} {e : Env} {s : State} {m : MethodId} {args : Array Value} {below : List Frame} {meth : Method} {c : Code} {A : Nat → Prop} {H0 : Heap} {Q : State → Prop} (C : Cx G RX2 cX2_placeInRow 8 p s m args c) {S : St} {x3 : Int32} {x5 : Int32} {x4 : Int32} {x6 : Int32} {x7 : Int32} {o : (St × Int32 × Int32 × Int32) ⊕ ((St × Int32 × Int32 × Int32) ⊕ (Int32 × St))} (h : i_X2_placeInRow_32 S x3 x5 x4 x6 x7 = some o) (Kn : ∀ q, o = .inl q → ∀ (H : Heap) (locs : List Loc) (ls : Array Slot), HX G A H0 q.1 H locs → lv_has ls 8 [(0, .ref (adr G 3)), (1, .ref (adr G 1)), (3, .int x3), (4, .int (q.2.1)), (5, .int x5), (6, .int (q.2.2.1)), (7, .int (q.2.2.2))] → W p l e (rmK 5) s m args below meth c H locs 0 0 Q (F0 m 32 ls [])) (Kt : ∀ u, o = .inr u → (∀ q, u = .inl q → ∀ (H : Heap) (locs : List Loc) (ls : Array Slot), HX G A H0 q.1 H locs → lv_has ls 8 [(6, .int (q.2.2.1))] → W p l e (rmK 5) s m args below meth c H locs 0 0 Q (F0 m 95 ls [])) ∧ (∀ r, u = .inr r → KI 37 eX G A H0 cX2_placeInRow p l e 5 s m args below meth c Q ((r).1) ((r).2))) : ∀ (H : Heap) (locs : List Loc) (ls : Array Slot), HX G A H0 S H locs → lv_has ls 8 [(0, .ref (adr G 3)), (1, .ref (adr G 1)), (3, .int x3), (4, .int x4), (5, .int x5), (6, .int x6), (7, .int x7)] → W p l e (rmK 5) s m args below meth c H locs 0 0 Q (F0 m 32 ls []) := by
  obtain ⟨hx, hb, -⟩ := id C
  intro H locs ls hW hl
  unfold i_X2_placeInRow_32 at h
  refine lv_iload hx hb dX2_placeInRow_32 (lv_at hl 6 rfl) ?_
  refine lv_iload_n hx hb dX2_placeInRow_34 rfl (lv_at hl 2 rfl) ?_
  refine lv_icmp_gt (tgt := 95) hx hb dX2_placeInRow_35 (by decide) (fun b35 => ?_) (fun b35 => ?_)
  · have h := it_t b35 h
    obtain rfl := Option.some.inj h
    exact (Kt _ rfl).1 _ rfl _ _ _ hW (lv_sub hl [5] rfl)
  · have h := it_f b35 h
    refine lv_iload hx hb dX2_placeInRow_38 (lv_at hl 6 rfl) ?_
    refine lv_iload hx hb dX2_placeInRow_40 (lv_at hl 4 rfl) ?_
    refine lv_icmp_lt (tgt := 48) hx hb dX2_placeInRow_42 (by decide) (fun b42 => ?_) (fun b42 => ?_)
    · have h := it_t b42 h
      refine lv_aload_n hx hb dX2_placeInRow_48 rfl (lv_at hl 0 rfl) ?_
      refine lv_aload_n hx hb dX2_placeInRow_49 rfl (lv_at hl 1 rfl) ?_
      refine lv_iload hx hb dX2_placeInRow_50 (lv_at hl 3 rfl) ?_
      obtain ⟨r52, r52h, h⟩ := bd_some h
      refine x_backV hW (x_runV (As := [.ref (adr G 1), .int x4]) (rest := []) C hW (c_X2_splitUp l G r52h H.size) cv_RX2_54 rv_X2 hl.1 rfl rfl ⟨by decide, by decide⟩ (Nat.le_of_ble_eq_true rfl) ⟨Nat.zero_le _, Nat.zero_le _⟩ dX2_placeInRow_52) (fun H locs hW => ?_)
      refine lv_aload_n hx hb dX2_placeInRow_55 rfl (lv_at hl 0 rfl) ?_
      refine lv_aload_n hx hb dX2_placeInRow_56 rfl (lv_at hl 1 rfl) ?_
      refine lv_iload hx hb dX2_placeInRow_57 (lv_at hl 4 rfl) ?_
      refine lv_iload hx hb dX2_placeInRow_59 (lv_at hl 6 rfl) ?_
      refine lv_isub hx hb dX2_placeInRow_61 ?_
      refine lv_iconst (v := 1) hx hb dX2_placeInRow_62 (by decide) ?_
      refine lv_isub hx hb dX2_placeInRow_63 ?_
      obtain ⟨r64, r64h, h⟩ := bd_some h
      refine x_backI hW (x_runV (As := [.ref (adr G 1), .int ((x5 - x7) - ((1 : Int32)))]) (rest := []) C hW (c_X2_firstThatLeaves l G r64h H.size) cv_RX2_64 rv_X2 hl.1 rfl rfl ⟨by decide, by decide⟩ (Nat.le_of_ble_eq_true rfl) ⟨Nat.zero_le _, Nat.zero_le _⟩ dX2_placeInRow_64) (fun H locs hW => ?_)
      refine lv_istore (lv' := [(6, .int r64), (0, .ref (adr G 3)), (1, .ref (adr G 1)), (3, .int x3), (4, .int x4), (5, .int x5), (7, .int x7)]) hx hb dX2_placeInRow_67 hl (by decide) rfl (fun ls hl => ?_)
      refine lv_iload hx hb dX2_placeInRow_69 (lv_at hl 0 rfl) ?_
      refine lv_bipush (v := (-9)) hx hb dX2_placeInRow_71 (by decide) ?_
      refine lv_icmp_ne (tgt := 79) hx hb dX2_placeInRow_73 (by decide) (fun b73 => ?_) (fun b73 => ?_)
      · have h := it_f b73 h
        refine lv_aload_n hx hb dX2_placeInRow_79 rfl (lv_at hl 1 rfl) ?_
        refine lv_aload_n hx hb dX2_placeInRow_80 rfl (lv_at hl 2 rfl) ?_
        refine lv_iload hx hb dX2_placeInRow_81 (lv_at hl 0 rfl) ?_
        refine lv_iconst (v := (-1)) hx hb dX2_placeInRow_83 (by decide) ?_
        obtain ⟨r84, r84h, h⟩ := bd_some h
        refine x_backI hW (x_runV (As := [.ref (adr G 1), .int r64, .int ((-1 : Int32))]) (rest := []) C hW (c_X2_numberBy l G r84h H.size) cv_RX2_60 rv_X2 hl.1 rfl rfl ⟨by decide, by decide⟩ (Nat.le_of_ble_eq_true rfl) ⟨Nat.zero_le _, Nat.zero_le _⟩ dX2_placeInRow_84) (fun H locs hW => ?_)
        refine lv_istore (lv' := [(4, .int r84), (6, .int r64), (0, .ref (adr G 3)), (1, .ref (adr G 1)), (3, .int x3), (5, .int x5), (7, .int x7)]) hx hb dX2_placeInRow_87 hl (by decide) rfl (fun ls hl => ?_)
        refine lv_iinc (v := (x7 + (1 : Int32))) (lv' := [(7, .int (x7 + (1 : Int32))), (4, .int r84), (6, .int r64), (0, .ref (adr G 3)), (1, .ref (adr G 1)), (3, .int x3), (5, .int x5)]) hx hb dX2_placeInRow_89 hl (k := 6) rfl rfl (by decide) rfl (fun ls hl => ?_)
        refine lv_goto (tgt := 32) hx hb dX2_placeInRow_92 (by decide) ?_
        obtain rfl := Option.some.inj h
        exact Kn _ rfl _ _ _ hW (lv_sub hl [3, 4, 5, 1, 6, 2, 0] rfl)
      · have h := it_t b73 h
        refine lv_bipush (v := (-9)) hx hb dX2_placeInRow_76 (by decide) ?_
        obtain rfl := Option.some.inj h
        exact (Kt _ rfl).2 _ rfl _ _ _ _ dX2_placeInRow_78 hW
    · have h := it_f b42 h
      refine lv_bipush (v := (-9)) hx hb dX2_placeInRow_45 (by decide) ?_
      obtain rfl := Option.some.inj h
      exact (Kt _ rfl).2 _ rfl _ _ _ _ dX2_placeInRow_47 hW
set_option maxHeartbeats 4000000 in
set_option maxRecDepth 100000 in
theorem l_i_X2_placeInRow_32 {G : Geo} {p : Program} {l : Launch} {e : Env} {s : State} {m : MethodId} {args : Array Value} {below : List Frame} {meth : Method} {c : Code} {A : Nat → Prop} {H0 : Heap} {Q : State → Prop} (C : Cx G RX2 cX2_placeInRow 8 p s m args c) {x3 : Int32} {x5 : Int32} {n : Nat} {q0 : St × Int32 × Int32 × Int32} {u : (St × Int32 × Int32 × Int32) ⊕ (Int32 × St)} (hq : iter (fun q : St × Int32 × Int32 × Int32 => i_X2_placeInRow_32 q.1 x3 x5 q.2.1 q.2.2.1 q.2.2.2) n q0 = some u) (Kt : (∀ q, u = .inl q → ∀ (H : Heap) (locs : List Loc) (ls : Array Slot), HX G A H0 q.1 H locs → lv_has ls 8 [(6, .int (q.2.2.1))] → W p l e (rmK 5) s m args below meth c H locs 0 0 Q (F0 m 95 ls [])) ∧ (∀ r, u = .inr r → KI 37 eX G A H0 cX2_placeInRow p l e 5 s m args below meth c Q ((r).1) ((r).2))) : (fun q : St × Int32 × Int32 × Int32 => ∀ (H : Heap) (locs : List Loc) (ls : Array Slot), HX G A H0 q.1 H locs → lv_has ls 8 [(0, .ref (adr G 3)), (1, .ref (adr G 1)), (3, .int x3), (4, .int (q.2.1)), (5, .int x5), (6, .int (q.2.2.1)), (7, .int (q.2.2.2))] → W p l e (rmK 5) s m args below meth c H locs 0 0 Q (F0 m 32 ls [])) q0 :=
  iter_W (P := fun q : St × Int32 × Int32 × Int32 => ∀ (H : Heap) (locs : List Loc) (ls : Array Slot), HX G A H0 q.1 H locs → lv_has ls 8 [(0, .ref (adr G 3)), (1, .ref (adr G 1)), (3, .int x3), (4, .int (q.2.1)), (5, .int x5), (6, .int (q.2.2.1)), (7, .int (q.2.2.2))] → W p l e (rmK 5) s m args below meth c H locs 0 0 Q (F0 m 32 ls [])) (K := fun u => (∀ q, u = .inl q → ∀ (H : Heap) (locs : List Loc) (ls : Array Slot), HX G A H0 q.1 H locs → lv_has ls 8 [(6, .int (q.2.2.1))] → W p l e (rmK 5) s m args below meth c H locs 0 0 Q (F0 m 95 ls [])) ∧ (∀ r, u = .inr r → KI 37 eX G A H0 cX2_placeInRow p l e 5 s m args below meth c Q ((r).1) ((r).2))) (fun q o hit Kn Kt => w_i_X2_placeInRow_32 C  hit Kn Kt) n q0 u hq Kt
def f_X2_placeInRow (S : St) (a1 : Nat) (a2 : Int32) : Option (Int32 × St) :=
  ck (arX a1) <| bd (f_X1_allSwitches S) fun r3 => bd (f_X2_spread S r3) fun r6 => bd (f_X2_numberOf r6 a1) fun r12 => bd (f_X2_fewestTo r6 r12) fun r20 => bd (iter (fun q => i_X2_placeInRow_32 q.1 a2 r20 q.2.1 q.2.2.1 q.2.2.2) BIG (r6, r12, (-9 : Int32), (0 : Int32))) fun u32 => sm u32 (fun q32 => some (q32.2.2.1, q32.1)) fun w32 => some w32
set_option maxHeartbeats 4000000 in
set_option maxRecDepth 100000 in
theorem w_f_X2_placeInRow {G : Geo} {p : Program} {l : Launch} {e : Env} {s : State} {m : MethodId} {args : Array Value} {below : List Frame} {meth : Method} {c : Code} {A : Nat → Prop} {H0 : Heap} {Q : State → Prop} (C : Cx G RX2 cX2_placeInRow 8 p s m args c) {S : St} {a1 : Nat} {a2 : Int32} {o : Int32 × St} (h : f_X2_placeInRow S a1 a2 = some o) (K : KI 37 eX G A H0 cX2_placeInRow p l e 5 s m args below meth c Q ((o).1) ((o).2)) : ∀ (H : Heap) (locs : List Loc) (ls : Array Slot), HX G A H0 S H locs → lv_has ls 8 [(0, .ref (adr G 3)), (1, .ref (adr G 1)), (2, .ref (adr G a1)), (3, .int a2)] → W p l e (rmK 5) s m args below meth c H locs 0 0 Q (F0 m 0 ls []) := by
  obtain ⟨hx, hb, -⟩ := id C
  intro H locs ls hW hl
  unfold f_X2_placeInRow at h
  obtain ⟨ha1, h⟩ := ck_some h
  refine lv_aload_n hx hb dX2_placeInRow_0 rfl (lv_at hl 0 rfl) ?_
  refine lv_aload_n hx hb dX2_placeInRow_1 rfl (lv_at hl 1 rfl) ?_
  refine lv_aload_n hx hb dX2_placeInRow_2 rfl (lv_at hl 1 rfl) ?_
  obtain ⟨r3, r3h, h⟩ := bd_some h
  refine x_backI hW (x_runV (As := []) (rest := [.ref (adr G 1), .ref (adr G 3)]) C hW (c_X1_allSwitches l G r3h H.size) cv_RX2_40 rv_X1 hl.1 rfl rfl ⟨by decide, by decide⟩ (Nat.le_of_ble_eq_true rfl) ⟨Nat.zero_le _, Nat.zero_le _⟩ dX2_placeInRow_3) (fun H locs hW => ?_)
  obtain ⟨r6, r6h, h⟩ := bd_some h
  refine x_backV hW (x_runV (As := [.ref (adr G 1), .int r3]) (rest := []) C hW (c_X2_spread l G r6h H.size) cv_RX2_33 rv_X2 hl.1 rfl rfl ⟨by decide, by decide⟩ (Nat.le_of_ble_eq_true rfl) ⟨Nat.zero_le _, Nat.zero_le _⟩ dX2_placeInRow_6) (fun H locs hW => ?_)
  refine lv_aload_n hx hb dX2_placeInRow_9 rfl (lv_at hl 0 rfl) ?_
  refine lv_aload_n hx hb dX2_placeInRow_10 rfl (lv_at hl 1 rfl) ?_
  refine lv_aload_n hx hb dX2_placeInRow_11 rfl (lv_at hl 2 rfl) ?_
  obtain ⟨r12, r12h, h⟩ := bd_some h
  refine x_backI hW (x_runV (As := [.ref (adr G 1), .ref (adr G a1)]) (rest := []) C hW (c_X2_numberOf l G r12h H.size) cv_RX2_46 rv_X2 hl.1 rfl rfl ⟨by decide, by decide⟩ (Nat.le_of_ble_eq_true rfl) ⟨Nat.zero_le _, Nat.zero_le _⟩ dX2_placeInRow_12) (fun H locs hW => ?_)
  refine lv_istore (lv' := [(4, .int r12), (0, .ref (adr G 3)), (1, .ref (adr G 1)), (2, .ref (adr G a1)), (3, .int a2)]) hx hb dX2_placeInRow_15 hl (by decide) rfl (fun ls hl => ?_)
  refine lv_aload_n hx hb dX2_placeInRow_17 rfl (lv_at hl 1 rfl) ?_
  refine lv_iload hx hb dX2_placeInRow_18 (lv_at hl 0 rfl) ?_
  obtain ⟨r20, r20h, h⟩ := bd_some h
  refine x_backI hW (x_runV (As := [.int r12]) (rest := []) C hW (c_X2_fewestTo l G r20h H.size) cv_RX2_50 rv_X2 hl.1 rfl rfl ⟨by decide, by decide⟩ (Nat.le_of_ble_eq_true rfl) ⟨Nat.zero_le _, Nat.zero_le _⟩ dX2_placeInRow_20) (fun H locs hW => ?_)
  refine lv_istore (lv' := [(5, .int r20), (4, .int r12), (0, .ref (adr G 3)), (1, .ref (adr G 1)), (2, .ref (adr G a1)), (3, .int a2)]) hx hb dX2_placeInRow_23 hl (by decide) rfl (fun ls hl => ?_)
  refine lv_bipush (v := (-9)) hx hb dX2_placeInRow_25 (by decide) ?_
  refine lv_istore (lv' := [(6, .int ((-9 : Int32))), (5, .int r20), (4, .int r12), (0, .ref (adr G 3)), (1, .ref (adr G 1)), (2, .ref (adr G a1)), (3, .int a2)]) hx hb dX2_placeInRow_27 hl (by decide) rfl (fun ls hl => ?_)
  refine lv_iconst (v := 0) hx hb dX2_placeInRow_29 (by decide) ?_
  refine lv_istore (lv' := [(7, .int ((0 : Int32))), (6, .int ((-9 : Int32))), (5, .int r20), (4, .int r12), (0, .ref (adr G 3)), (1, .ref (adr G 1)), (2, .ref (adr G a1)), (3, .int a2)]) hx hb dX2_placeInRow_30 hl (by decide) rfl (fun ls hl => ?_)
  obtain ⟨u32, u32h, h⟩ := bd_some h
  refine l_i_X2_placeInRow_32 C  u32h ⟨?_, ?_⟩ _ _ _ hW (lv_sub hl [4, 5, 7, 3, 2, 1, 0] rfl)
  · intro q32 hu; subst hu; have h := sm_l h
    intro H locs ls hW hl
    refine lv_iload hx hb dX2_placeInRow_95 (lv_at hl 0 rfl) ?_
    obtain rfl := Option.some.inj h
    exact K _ _ _ _ dX2_placeInRow_97 hW
  · intro w32 hu; subst hu; have h := sm_r h
    obtain rfl := Option.some.inj h
    exact K
set_option maxRecDepth 100000 in
theorem c_X2_placeInRow (l : Launch) (G : Geo) {S : St} {a1 : Nat} {a2 : Int32} {o : Int32 × St} (h : f_X2_placeInRow S a1 a2 = some o) : MI 37 eX G l yX2_placeInRow cX2_placeInRow 8 (some .int) 5 [.ref (adr G 3), .ref (adr G 1), .ref (adr G a1), .int a2] S o.1 o.2 :=
  mI_of (by decide +kernel) (Nat.le_of_ble_eq_true rfl) (fun p e s m below meth c A H0 Q C K => w_f_X2_placeInRow C h K)
def f_X2_pressesFor (S : St) (a1 : Nat) : Option (Int32 × St) :=
  ck (arX a1) <| bd (f_X1_allSwitches S) fun r3 => bd (f_X2_spread S r3) fun r6 => bd (f_X2_numberOf r6 a1) fun r13 => bd (f_X2_fewestTo r6 r13) fun r16 => some (r16, r6)
set_option maxHeartbeats 4000000 in
set_option maxRecDepth 100000 in
theorem w_f_X2_pressesFor {G : Geo} {p : Program} {l : Launch} {e : Env} {s : State} {m : MethodId} {args : Array Value} {below : List Frame} {meth : Method} {c : Code} {A : Nat → Prop} {H0 : Heap} {Q : State → Prop} (C : Cx G RX2 cX2_pressesFor 3 p s m args c) {S : St} {a1 : Nat} {o : Int32 × St} (h : f_X2_pressesFor S a1 = some o) (K : KI 37 eX G A H0 cX2_pressesFor p l e 5 s m args below meth c Q ((o).1) ((o).2)) : ∀ (H : Heap) (locs : List Loc) (ls : Array Slot), HX G A H0 S H locs → lv_has ls 3 [(0, .ref (adr G 3)), (1, .ref (adr G 1)), (2, .ref (adr G a1))] → W p l e (rmK 5) s m args below meth c H locs 0 0 Q (F0 m 0 ls []) := by
  obtain ⟨hx, hb, -⟩ := id C
  intro H locs ls hW hl
  unfold f_X2_pressesFor at h
  obtain ⟨ha1, h⟩ := ck_some h
  refine lv_aload_n hx hb dX2_pressesFor_0 rfl (lv_at hl 0 rfl) ?_
  refine lv_aload_n hx hb dX2_pressesFor_1 rfl (lv_at hl 1 rfl) ?_
  refine lv_aload_n hx hb dX2_pressesFor_2 rfl (lv_at hl 1 rfl) ?_
  obtain ⟨r3, r3h, h⟩ := bd_some h
  refine x_backI hW (x_runV (As := []) (rest := [.ref (adr G 1), .ref (adr G 3)]) C hW (c_X1_allSwitches l G r3h H.size) cv_RX2_40 rv_X1 hl.1 rfl rfl ⟨by decide, by decide⟩ (Nat.le_of_ble_eq_true rfl) ⟨Nat.zero_le _, Nat.zero_le _⟩ dX2_pressesFor_3) (fun H locs hW => ?_)
  obtain ⟨r6, r6h, h⟩ := bd_some h
  refine x_backV hW (x_runV (As := [.ref (adr G 1), .int r3]) (rest := []) C hW (c_X2_spread l G r6h H.size) cv_RX2_33 rv_X2 hl.1 rfl rfl ⟨by decide, by decide⟩ (Nat.le_of_ble_eq_true rfl) ⟨Nat.zero_le _, Nat.zero_le _⟩ dX2_pressesFor_6) (fun H locs hW => ?_)
  refine lv_aload_n hx hb dX2_pressesFor_9 rfl (lv_at hl 0 rfl) ?_
  refine lv_aload_n hx hb dX2_pressesFor_10 rfl (lv_at hl 0 rfl) ?_
  refine lv_aload_n hx hb dX2_pressesFor_11 rfl (lv_at hl 1 rfl) ?_
  refine lv_aload_n hx hb dX2_pressesFor_12 rfl (lv_at hl 2 rfl) ?_
  obtain ⟨r13, r13h, h⟩ := bd_some h
  refine x_backI hW (x_runV (As := [.ref (adr G 1), .ref (adr G a1)]) (rest := [.ref (adr G 3)]) C hW (c_X2_numberOf l G r13h H.size) cv_RX2_46 rv_X2 hl.1 rfl rfl ⟨by decide, by decide⟩ (Nat.le_of_ble_eq_true rfl) ⟨Nat.zero_le _, Nat.zero_le _⟩ dX2_pressesFor_13) (fun H locs hW => ?_)
  obtain ⟨r16, r16h, h⟩ := bd_some h
  refine x_backI hW (x_runV (As := [.int r13]) (rest := []) C hW (c_X2_fewestTo l G r16h H.size) cv_RX2_50 rv_X2 hl.1 rfl rfl ⟨by decide, by decide⟩ (Nat.le_of_ble_eq_true rfl) ⟨Nat.zero_le _, Nat.zero_le _⟩ dX2_pressesFor_16) (fun H locs hW => ?_)
  obtain rfl := Option.some.inj h
  exact K _ _ _ _ dX2_pressesFor_19 hW
set_option maxRecDepth 100000 in
theorem c_X2_pressesFor (l : Launch) (G : Geo) {S : St} {a1 : Nat} {o : Int32 × St} (h : f_X2_pressesFor S a1 = some o) : MI 37 eX G l yX2_pressesFor cX2_pressesFor 3 (some .int) 5 [.ref (adr G 3), .ref (adr G 1), .ref (adr G a1)] S o.1 o.2 :=
  mI_of (by decide +kernel) (Nat.le_of_ble_eq_true rfl) (fun p e s m below meth c A H0 Q C K => w_f_X2_pressesFor C h K)
def i_X2_pressesForNothing_20 (S : St) (x2 : Int32) (x3 : Int32) : Option ((Int32 × Int32) ⊕ (Int32 × Int32)) :=
  if (S 1 3) ≤ x3 then (some (.inr (x2, x3))) else (bd (f_X2_numberBy S x3 ((-1 : Int32))) fun r33 => bd (f_X2_fewestTo S r33) fun r36 => if r36 = ((-9 : Int32)) then (some (.inl (x2, x3 + (1 : Int32)))) else (if x2 = ((-9 : Int32)) then (some (.inl (r36 + ((1 : Int32)), x3 + (1 : Int32)))) else (if x2 ≤ (r36 + ((1 : Int32))) then (some (.inl (x2, x3 + (1 : Int32)))) else (some (.inl (r36 + ((1 : Int32)), x3 + (1 : Int32)))))))
set_option maxHeartbeats 4000000 in
set_option maxRecDepth 100000 in
theorem w_i_X2_pressesForNothing_20 {G : Geo} {p : Program} {l : Launch} {e : Env} {s : State} {m : MethodId} {args : Array Value} {below : List Frame} {meth : Method} {c : Code} {A : Nat → Prop} {H0 : Heap} {Q : State → Prop} (C : Cx G RX2 cX2_pressesForNothing 5 p s m args c) {S : St} {x2 : Int32} {x3 : Int32} {o : (Int32 × Int32) ⊕ (Int32 × Int32)} (h : i_X2_pressesForNothing_20 S x2 x3 = some o) (Kn : ∀ q, o = .inl q → ∀ (H : Heap) (locs : List Loc) (ls : Array Slot), HX G A H0 S H locs → lv_has ls 5 [(0, .ref (adr G 3)), (1, .ref (adr G 1)), (2, .int (q.1)), (3, .int (q.2))] → W p l e (rmK 5) s m args below meth c H locs 0 0 Q (F0 m 20 ls [])) (Kt : ∀ q, o = .inr q → ∀ (H : Heap) (locs : List Loc) (ls : Array Slot), HX G A H0 S H locs → lv_has ls 5 [(2, .int (q.1))] → W p l e (rmK 5) s m args below meth c H locs 0 0 Q (F0 m 73 ls [])) : ∀ (H : Heap) (locs : List Loc) (ls : Array Slot), HX G A H0 S H locs → lv_has ls 5 [(0, .ref (adr G 3)), (1, .ref (adr G 1)), (2, .int x2), (3, .int x3)] → W p l e (rmK 5) s m args below meth c H locs 0 0 Q (F0 m 20 ls []) := by
  obtain ⟨hx, hb, -⟩ := id C
  intro H locs ls hW hl
  unfold i_X2_pressesForNothing_20 at h
  refine lv_iload_n hx hb dX2_pressesForNothing_20 rfl (lv_at hl 3 rfl) ?_
  refine lv_aload_n hx hb dX2_pressesForNothing_21 rfl (lv_at hl 1 rfl) ?_
  refine gf_RX2_57 C hW dX2_pressesForNothing_22 ?_
  refine lv_icmp_ge (tgt := 73) hx hb dX2_pressesForNothing_25 (by decide) (fun b25 => ?_) (fun b25 => ?_)
  · have h := it_t b25 h
    obtain rfl := Option.some.inj h
    exact Kt _ rfl _ _ _ hW (lv_sub hl [2] rfl)
  · have h := it_f b25 h
    refine lv_aload_n hx hb dX2_pressesForNothing_28 rfl (lv_at hl 0 rfl) ?_
    refine lv_aload_n hx hb dX2_pressesForNothing_29 rfl (lv_at hl 0 rfl) ?_
    refine lv_aload_n hx hb dX2_pressesForNothing_30 rfl (lv_at hl 1 rfl) ?_
    refine lv_iload_n hx hb dX2_pressesForNothing_31 rfl (lv_at hl 3 rfl) ?_
    refine lv_iconst (v := (-1)) hx hb dX2_pressesForNothing_32 (by decide) ?_
    obtain ⟨r33, r33h, h⟩ := bd_some h
    refine x_backI hW (x_runV (As := [.ref (adr G 1), .int x3, .int ((-1 : Int32))]) (rest := [.ref (adr G 3)]) C hW (c_X2_numberBy l G r33h H.size) cv_RX2_60 rv_X2 hl.1 rfl rfl ⟨by decide, by decide⟩ (Nat.le_of_ble_eq_true rfl) ⟨Nat.zero_le _, Nat.zero_le _⟩ dX2_pressesForNothing_33) (fun H locs hW => ?_)
    obtain ⟨r36, r36h, h⟩ := bd_some h
    refine x_backI hW (x_runV (As := [.int r33]) (rest := []) C hW (c_X2_fewestTo l G r36h H.size) cv_RX2_50 rv_X2 hl.1 rfl rfl ⟨by decide, by decide⟩ (Nat.le_of_ble_eq_true rfl) ⟨Nat.zero_le _, Nat.zero_le _⟩ dX2_pressesForNothing_36) (fun H locs hW => ?_)
    refine lv_istore (lv' := [(4, .int r36), (0, .ref (adr G 3)), (1, .ref (adr G 1)), (2, .int x2), (3, .int x3)]) hx hb dX2_pressesForNothing_39 hl (by decide) rfl (fun ls hl => ?_)
    refine lv_iload hx hb dX2_pressesForNothing_41 (lv_at hl 0 rfl) ?_
    refine lv_bipush (v := (-9)) hx hb dX2_pressesForNothing_43 (by decide) ?_
    refine lv_icmp_eq (tgt := 67) hx hb dX2_pressesForNothing_45 (by decide) (fun b45 => ?_) (fun b45 => ?_)
    · have h := it_t b45 h
      refine lv_iinc (v := (x3 + (1 : Int32))) (lv' := [(3, .int (x3 + (1 : Int32))), (4, .int r36), (0, .ref (adr G 3)), (1, .ref (adr G 1)), (2, .int x2)]) hx hb dX2_pressesForNothing_67 hl (k := 4) rfl rfl (by decide) rfl (fun ls hl => ?_)
      refine lv_goto (tgt := 20) hx hb dX2_pressesForNothing_70 (by decide) ?_
      obtain rfl := Option.some.inj h
      exact Kn _ rfl _ _ _ hW (lv_sub hl [2, 3, 4, 0] rfl)
    · have h := it_f b45 h
      refine lv_iload_n hx hb dX2_pressesForNothing_48 rfl (lv_at hl 3 rfl) ?_
      refine lv_bipush (v := (-9)) hx hb dX2_pressesForNothing_49 (by decide) ?_
      refine lv_icmp_eq (tgt := 62) hx hb dX2_pressesForNothing_51 (by decide) (fun b51 => ?_) (fun b51 => ?_)
      · have h := it_t b51 h
        refine lv_iload hx hb dX2_pressesForNothing_62 (lv_at hl 0 rfl) ?_
        refine lv_iconst (v := 1) hx hb dX2_pressesForNothing_64 (by decide) ?_
        refine lv_iadd hx hb dX2_pressesForNothing_65 ?_
        refine lv_istore_n (lv' := [(2, .int (r36 + ((1 : Int32)))), (4, .int r36), (0, .ref (adr G 3)), (1, .ref (adr G 1)), (3, .int x3)]) hx hb dX2_pressesForNothing_66 rfl hl (by decide) rfl (fun ls hl => ?_)
        refine lv_iinc (v := (x3 + (1 : Int32))) (lv' := [(3, .int (x3 + (1 : Int32))), (2, .int (r36 + ((1 : Int32)))), (4, .int r36), (0, .ref (adr G 3)), (1, .ref (adr G 1))]) hx hb dX2_pressesForNothing_67 hl (k := 4) rfl rfl (by decide) rfl (fun ls hl => ?_)
        refine lv_goto (tgt := 20) hx hb dX2_pressesForNothing_70 (by decide) ?_
        obtain rfl := Option.some.inj h
        exact Kn _ rfl _ _ _ hW (lv_sub hl [3, 4, 1, 0] rfl)
      · have h := it_f b51 h
        refine lv_iload hx hb dX2_pressesForNothing_54 (lv_at hl 0 rfl) ?_
        refine lv_iconst (v := 1) hx hb dX2_pressesForNothing_56 (by decide) ?_
        refine lv_iadd hx hb dX2_pressesForNothing_57 ?_
        refine lv_iload_n hx hb dX2_pressesForNothing_58 rfl (lv_at hl 3 rfl) ?_
        refine lv_icmp_ge (tgt := 67) hx hb dX2_pressesForNothing_59 (by decide) (fun b59 => ?_) (fun b59 => ?_)
        · have h := it_t b59 h
          refine lv_iinc (v := (x3 + (1 : Int32))) (lv' := [(3, .int (x3 + (1 : Int32))), (4, .int r36), (0, .ref (adr G 3)), (1, .ref (adr G 1)), (2, .int x2)]) hx hb dX2_pressesForNothing_67 hl (k := 4) rfl rfl (by decide) rfl (fun ls hl => ?_)
          refine lv_goto (tgt := 20) hx hb dX2_pressesForNothing_70 (by decide) ?_
          obtain rfl := Option.some.inj h
          exact Kn _ rfl _ _ _ hW (lv_sub hl [2, 3, 4, 0] rfl)
        · have h := it_f b59 h
          refine lv_iload hx hb dX2_pressesForNothing_62 (lv_at hl 0 rfl) ?_
          refine lv_iconst (v := 1) hx hb dX2_pressesForNothing_64 (by decide) ?_
          refine lv_iadd hx hb dX2_pressesForNothing_65 ?_
          refine lv_istore_n (lv' := [(2, .int (r36 + ((1 : Int32)))), (4, .int r36), (0, .ref (adr G 3)), (1, .ref (adr G 1)), (3, .int x3)]) hx hb dX2_pressesForNothing_66 rfl hl (by decide) rfl (fun ls hl => ?_)
          refine lv_iinc (v := (x3 + (1 : Int32))) (lv' := [(3, .int (x3 + (1 : Int32))), (2, .int (r36 + ((1 : Int32)))), (4, .int r36), (0, .ref (adr G 3)), (1, .ref (adr G 1))]) hx hb dX2_pressesForNothing_67 hl (k := 4) rfl rfl (by decide) rfl (fun ls hl => ?_)
          refine lv_goto (tgt := 20) hx hb dX2_pressesForNothing_70 (by decide) ?_
          obtain rfl := Option.some.inj h
          exact Kn _ rfl _ _ _ hW (lv_sub hl [3, 4, 1, 0] rfl)
set_option maxHeartbeats 4000000 in
set_option maxRecDepth 100000 in
theorem l_i_X2_pressesForNothing_20 {G : Geo} {p : Program} {l : Launch} {e : Env} {s : State} {m : MethodId} {args : Array Value} {below : List Frame} {meth : Method} {c : Code} {A : Nat → Prop} {H0 : Heap} {Q : State → Prop} (C : Cx G RX2 cX2_pressesForNothing 5 p s m args c) {S : St}  {n : Nat} {q0 : Int32 × Int32} {u : Int32 × Int32} (hq : iter (fun q : Int32 × Int32 => i_X2_pressesForNothing_20 S q.1 q.2) n q0 = some u) (Kt : (fun q : Int32 × Int32 => ∀ (H : Heap) (locs : List Loc) (ls : Array Slot), HX G A H0 S H locs → lv_has ls 5 [(2, .int (q.1))] → W p l e (rmK 5) s m args below meth c H locs 0 0 Q (F0 m 73 ls [])) u) : (fun q : Int32 × Int32 => ∀ (H : Heap) (locs : List Loc) (ls : Array Slot), HX G A H0 S H locs → lv_has ls 5 [(0, .ref (adr G 3)), (1, .ref (adr G 1)), (2, .int (q.1)), (3, .int (q.2))] → W p l e (rmK 5) s m args below meth c H locs 0 0 Q (F0 m 20 ls [])) q0 :=
  iter_W (P := fun q : Int32 × Int32 => ∀ (H : Heap) (locs : List Loc) (ls : Array Slot), HX G A H0 S H locs → lv_has ls 5 [(0, .ref (adr G 3)), (1, .ref (adr G 1)), (2, .int (q.1)), (3, .int (q.2))] → W p l e (rmK 5) s m args below meth c H locs 0 0 Q (F0 m 20 ls [])) (K := fun q : Int32 × Int32 => ∀ (H : Heap) (locs : List Loc) (ls : Array Slot), HX G A H0 S H locs → lv_has ls 5 [(2, .int (q.1))] → W p l e (rmK 5) s m args below meth c H locs 0 0 Q (F0 m 73 ls [])) (fun q o hit Kn Kt => w_i_X2_pressesForNothing_20 C  hit Kn Kt) n q0 u hq Kt
def f_X2_pressesForNothing (S : St) : Option (Int32 × St) :=
  bd (f_X1_allSwitches S) fun r3 => bd (f_X2_spread S r3) fun r6 => bd (f_X2_splitUp r6 ((0 : Int32))) fun r12 => bd (iter (fun q => i_X2_pressesForNothing_20 r12 q.1 q.2) BIG ((-9 : Int32), (0 : Int32))) fun q20 => some (q20.1, r12)
set_option maxHeartbeats 4000000 in
set_option maxRecDepth 100000 in
theorem w_f_X2_pressesForNothing {G : Geo} {p : Program} {l : Launch} {e : Env} {s : State} {m : MethodId} {args : Array Value} {below : List Frame} {meth : Method} {c : Code} {A : Nat → Prop} {H0 : Heap} {Q : State → Prop} (C : Cx G RX2 cX2_pressesForNothing 5 p s m args c) {S : St}  {o : Int32 × St} (h : f_X2_pressesForNothing S = some o) (K : KI 37 eX G A H0 cX2_pressesForNothing p l e 5 s m args below meth c Q ((o).1) ((o).2)) : ∀ (H : Heap) (locs : List Loc) (ls : Array Slot), HX G A H0 S H locs → lv_has ls 5 [(0, .ref (adr G 3)), (1, .ref (adr G 1))] → W p l e (rmK 5) s m args below meth c H locs 0 0 Q (F0 m 0 ls []) := by
  obtain ⟨hx, hb, -⟩ := id C
  intro H locs ls hW hl
  unfold f_X2_pressesForNothing at h
  refine lv_aload_n hx hb dX2_pressesForNothing_0 rfl (lv_at hl 0 rfl) ?_
  refine lv_aload_n hx hb dX2_pressesForNothing_1 rfl (lv_at hl 1 rfl) ?_
  refine lv_aload_n hx hb dX2_pressesForNothing_2 rfl (lv_at hl 1 rfl) ?_
  obtain ⟨r3, r3h, h⟩ := bd_some h
  refine x_backI hW (x_runV (As := []) (rest := [.ref (adr G 1), .ref (adr G 3)]) C hW (c_X1_allSwitches l G r3h H.size) cv_RX2_40 rv_X1 hl.1 rfl rfl ⟨by decide, by decide⟩ (Nat.le_of_ble_eq_true rfl) ⟨Nat.zero_le _, Nat.zero_le _⟩ dX2_pressesForNothing_3) (fun H locs hW => ?_)
  obtain ⟨r6, r6h, h⟩ := bd_some h
  refine x_backV hW (x_runV (As := [.ref (adr G 1), .int r3]) (rest := []) C hW (c_X2_spread l G r6h H.size) cv_RX2_33 rv_X2 hl.1 rfl rfl ⟨by decide, by decide⟩ (Nat.le_of_ble_eq_true rfl) ⟨Nat.zero_le _, Nat.zero_le _⟩ dX2_pressesForNothing_6) (fun H locs hW => ?_)
  refine lv_aload_n hx hb dX2_pressesForNothing_9 rfl (lv_at hl 0 rfl) ?_
  refine lv_aload_n hx hb dX2_pressesForNothing_10 rfl (lv_at hl 1 rfl) ?_
  refine lv_iconst (v := 0) hx hb dX2_pressesForNothing_11 (by decide) ?_
  obtain ⟨r12, r12h, h⟩ := bd_some h
  refine x_backV hW (x_runV (As := [.ref (adr G 1), .int ((0 : Int32))]) (rest := []) C hW (c_X2_splitUp l G r12h H.size) cv_RX2_54 rv_X2 hl.1 rfl rfl ⟨by decide, by decide⟩ (Nat.le_of_ble_eq_true rfl) ⟨Nat.zero_le _, Nat.zero_le _⟩ dX2_pressesForNothing_12) (fun H locs hW => ?_)
  refine lv_bipush (v := (-9)) hx hb dX2_pressesForNothing_15 (by decide) ?_
  refine lv_istore_n (lv' := [(2, .int ((-9 : Int32))), (0, .ref (adr G 3)), (1, .ref (adr G 1))]) hx hb dX2_pressesForNothing_17 rfl hl (by decide) rfl (fun ls hl => ?_)
  refine lv_iconst (v := 0) hx hb dX2_pressesForNothing_18 (by decide) ?_
  refine lv_istore_n (lv' := [(3, .int ((0 : Int32))), (2, .int ((-9 : Int32))), (0, .ref (adr G 3)), (1, .ref (adr G 1))]) hx hb dX2_pressesForNothing_19 rfl hl (by decide) rfl (fun ls hl => ?_)
  obtain ⟨q20, q20h, h⟩ := bd_some h
  refine l_i_X2_pressesForNothing_20 C  q20h ?_ _ _ _ hW (lv_sub hl [2, 3, 1, 0] rfl)
  intro H locs ls hW hl
  refine lv_iload_n hx hb dX2_pressesForNothing_73 rfl (lv_at hl 0 rfl) ?_
  obtain rfl := Option.some.inj h
  exact K _ _ _ _ dX2_pressesForNothing_74 hW
set_option maxRecDepth 100000 in
theorem c_X2_pressesForNothing (l : Launch) (G : Geo) {S : St}  {o : Int32 × St} (h : f_X2_pressesForNothing S = some o) : MI 37 eX G l yX2_pressesForNothing cX2_pressesForNothing 5 (some .int) 5 [.ref (adr G 3), .ref (adr G 1)] S o.1 o.2 :=
  mI_of (by decide +kernel) (Nat.le_of_ble_eq_true rfl) (fun p e s m below meth c A H0 Q C K => w_f_X2_pressesForNothing C h K)
