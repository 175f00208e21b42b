set_option maxHeartbeats 4000000 in
set_option maxRecDepth 100000 in
theorem law_loop {Inv : St → St → Prop} (h_hall : Sim_hall Inv) (h_ofLamp : Sim_ofLamp Inv) (h_ofSwitch : Sim_ofSwitch Inv) (h_shade : Sim_shade Inv) (h_turn : Sim_turn Inv) (h_wire : Sim_wire Inv) (h_press : Sim_press Inv) (h_day : Sim_day Inv) (h_fewest : Sim_fewest Inv) (h_halls : Sim_halls Inv) (h_alone : Sim_alone Inv) (h_idle : Sim_idle Inv) (h_spare : Sim_spare Inv) (h_reading : Sim_reading Inv) (h_back : Sim_back Inv) (h_turnings : Sim_turnings Inv) (h_kinds : Sim_kinds Inv) (h_shadings : Sim_shadings Inv) (h_odds : Sim_odds Inv) (h_sheet : Sim_sheet Inv) (h_lose : Sim_lose Inv) (h_put : Sim_put Inv) (h_cell : Sim_cell Inv) (h_copy : Sim_copy Inv) (h_tell : Sim_tell Inv) (h_feel : Sim_feel Inv) (h_as : Sim_as Inv) (h_trace : Sim_trace Inv) (h_fault : Sim_fault Inv) (h_many : Sim_many Inv) {p : Program} {l : Launch} {e : Env} {s : State} {m : MethodId} {below : List Frame} {meth : Method} {c : Code} {b L : Nat} {xs : Nat → Int32} {G1 G2 : Geo} (hL : L ≤ 3072) (hr : meth.sig.returnType = ret) (hlocks : meth.locks = false) (Cx1 : Cx G1 RL code 4 p s m #[Value.ref b] c) (Cx2 : Cx G2 RL code 4 p s m #[Value.ref b] c) (hdis : ∀ i j, i < 37 → j < 18 → adr G1 i ≠ adr G2 j) (hX : va_X b L xs s s.heap) (hbl : b < s.heap.size) :
    ∀ (n i : Nat) (x3 : Int32), i ≤ L + 6 → L + 1 ≤ i + n → x3 = nI i → ∀ (Sx Sm : St), Inv Sx Sm → ∀ (H : Heap) (locs : List Loc), HX G1 (fun q => s.heap.size ≤ q) s.heap Sx H locs → HM G2 (fun q => s.heap.size ≤ q) s.heap Sm H locs → ∀ (ls : Array Slot), lv_has ls 4 [(0, .ref b), (1, .ref (adr G1 0)), (2, .ref (adr G2 0)), (3, .int x3)] → W p l e room_1 s m #[Value.ref b] below meth c H locs 55 13311 (lw_Z below #[Value.ref b] s) (F0 m 18 ls []) := by
  obtain ⟨hx, hb, -⟩ := id Cx1
  have hbA : ¬ (fun q : Nat => s.heap.size ≤ q) b := Nat.not_le.mpr hbl
  have hend : ∀ (H : Heap) (locs : List Loc) (ls : Array Slot) (Sx : St), HX G1 (fun q => s.heap.size ≤ q) s.heap Sx H locs → W p l e room_1 s m #[Value.ref b] below meth c H locs 55 13311 (lw_Z below #[Value.ref b] s) (F0 m 1116 ls []) := by
    intro H locs ls Sx hWx
    refine lv_iconst (v := 1) hx hb dL_law_1116 (by decide) ?_
    refine va_forget (fun q hq => hWx.2.2.1.2.2 q hq) ?_
    refine W.widen (k := 600000) (n := 7302249) (Nat.le_of_ble_eq_true rfl) (Nat.le_of_ble_eq_true rfl) ?_
    exact lw_ret hx hb hr hlocks dL_law_1117
  intro n
  induction n with
  | zero =>
    intro i x3 h1 h2 ex Sx Sm hI H locs hWx hWm ls hl
    refine lv_iload_n hx hb dL_law_18 rfl (lv_at hl 3 rfl) ?_
    refine lv_aload_n hx hb dL_law_19 rfl (lv_at hl 0 rfl) ?_
    refine va_slen hx hb hX hbl hbA hWx.2.2.1 dL_law_20 ?_
    refine lv_bipush (v := 6) hx hb dL_law_21 (by decide) ?_
    refine lv_isub hx hb dL_law_23 ?_
    refine lv_icmp_gt (tgt := 1116) hx hb dL_law_24 (by decide) (fun b24 => ?_) (fun b24 => ?_)
    · exact hend H locs ls Sx hWx
    · exfalso
      apply b24
      rw [ex, Int32.lt_iff_toInt_lt, show (Int32.ofNat L - 6).toInt = (L : Int) - (6 : Nat) from pk_sub_toInt (a := L) (b := 6) (by omega) (by decide), nI_toInt (by omega)]
      omega
  | succ n ih =>
    intro i x3 h1 h2 ex Sx Sm hI H locs hWx hWm ls hl
    refine lv_iload_n hx hb dL_law_18 rfl (lv_at hl 3 rfl) ?_
    refine lv_aload_n hx hb dL_law_19 rfl (lv_at hl 0 rfl) ?_
    refine va_slen hx hb hX hbl hbA hWx.2.2.1 dL_law_20 ?_
    refine lv_bipush (v := 6) hx hb dL_law_21 (by decide) ?_
    refine lv_isub hx hb dL_law_23 ?_
    refine lv_icmp_gt (tgt := 1116) hx hb dL_law_24 (by decide) (fun b24 => ?_) (fun b24 => ?_)
    · exact hend H locs ls Sx hWx
    · have hle : i + 6 ≤ L := by
        rw [ex, Int32.lt_iff_toInt_lt, show (Int32.ofNat L - 6).toInt = (L : Int) - (6 : Nat) from pk_sub_toInt (a := L) (b := 6) (by omega) (by decide), nI_toInt (by omega)] at b24
        omega
      have hv : ∀ j : Nat, 1 ≤ j → j ≤ 5 → vp_in (x3 + nI j) L := fun j hj1 hj2 => by rw [ex, nI_add]; exact vp_in_nI (by omega) (by omega)
      have hv0 : vp_in x3 L := by rw [ex]; exact vp_in_nI (by omega) (by omega)
      have Kn : ∀ (Sx Sm : St) (H : Heap) (locs : List Loc), Inv Sx Sm → HX G1 (fun q => s.heap.size ≤ q) s.heap Sx H locs → HM G2 (fun q => s.heap.size ≤ q) s.heap Sm H locs → W p l e room_1 s m #[Value.ref b] below meth c H locs 55 13311 (lw_Z below #[Value.ref b] s) (F0 m 1110 ls []) := by
        intro Sx Sm H locs hI hWx hWm
        refine lv_iinc (v := x3 + 6) (lv' := [(3, .int (x3 + 6)), (0, .ref b), (1, .ref (adr G1 0)), (2, .ref (adr G2 0))]) hx hb dL_law_1110 hl (k := 3) rfl rfl (by decide) rfl (fun ls hl => ?_)
        refine lv_goto (tgt := 18) hx hb dL_law_1113 (by decide) ?_
        exact ih (i + 6) (x3 + 6) (by omega) (by omega) (by rw [ex]; exact nI_add i 6) Sx Sm hI H locs hWx hWm ls (lv_sub hl [1, 2, 3, 0] rfl)
      refine lv_aload_n hx hb dL_law_27 rfl (lv_at hl 0 rfl) ?_
      refine lv_iload_n hx hb dL_law_28 rfl (lv_at hl 3 rfl) ?_
      refine va_sld hx hb hX hbl hbA hWx.2.2.1 hv0 dL_law_29 ?_
      refine lv_bipush (v := 31) hx hb dL_law_30 (by decide) ?_
      refine lv_iand hx hb dL_law_32 ?_
      generalize xs x3.toNatClampNeg &&& 31 = z
      by_cases v0 : z = 0
      · refine lv_tableIn (off := 135) (tgt := 168) hx hb dL_law_33 (by rw [v0]; decide) (by rw [v0]; decide) (by rw [v0]; rfl) (by decide) ?_
        exact law_hall h_hall Cx1 Cx2 hdis hX hbl hv hl Kn hI hWx hWm
      by_cases v1 : z = 1
      · refine lv_tableIn (off := 188) (tgt := 221) hx hb dL_law_33 (by rw [v1]; decide) (by rw [v1]; decide) (by rw [v1]; rfl) (by decide) ?_
        exact law_ofLamp h_ofLamp Cx1 Cx2 hdis hX hbl hv hl Kn hI hWx hWm
      by_cases v2 : z = 2
      · refine lv_tableIn (off := 221) (tgt := 254) hx hb dL_law_33 (by rw [v2]; decide) (by rw [v2]; decide) (by rw [v2]; rfl) (by decide) ?_
        exact law_ofSwitch h_ofSwitch Cx1 Cx2 hdis hX hbl hv hl Kn hI hWx hWm
      by_cases v3 : z = 3
      · refine lv_tableIn (off := 254) (tgt := 287) hx hb dL_law_33 (by rw [v3]; decide) (by rw [v3]; decide) (by rw [v3]; rfl) (by decide) ?_
        exact law_shade h_shade Cx1 Cx2 hdis hX hbl hv hl Kn hI hWx hWm
      by_cases v4 : z = 4
      · refine lv_tableIn (off := 287) (tgt := 320) hx hb dL_law_33 (by rw [v4]; decide) (by rw [v4]; decide) (by rw [v4]; rfl) (by decide) ?_
        exact law_turn h_turn Cx1 Cx2 hdis hX hbl hv hl Kn hI hWx hWm
      by_cases v5 : z = 5
      · refine lv_tableIn (off := 320) (tgt := 353) hx hb dL_law_33 (by rw [v5]; decide) (by rw [v5]; decide) (by rw [v5]; rfl) (by decide) ?_
        exact law_wire h_wire Cx1 Cx2 hdis hX hbl hv hl Kn hI hWx hWm
      by_cases v6 : z = 6
      · refine lv_tableIn (off := 353) (tgt := 386) hx hb dL_law_33 (by rw [v6]; decide) (by rw [v6]; decide) (by rw [v6]; rfl) (by decide) ?_
        exact law_press h_press Cx1 Cx2 hdis hX hbl hv hl Kn hI hWx hWm
      by_cases v7 : z = 7
      · refine lv_tableIn (off := 386) (tgt := 419) hx hb dL_law_33 (by rw [v7]; decide) (by rw [v7]; decide) (by rw [v7]; rfl) (by decide) ?_
        exact law_day h_day Cx1 Cx2 hdis hX hbl hv hl Kn hI hWx hWm
      by_cases v8 : z = 8
      · refine lv_tableIn (off := 449) (tgt := 482) hx hb dL_law_33 (by rw [v8]; decide) (by rw [v8]; decide) (by rw [v8]; rfl) (by decide) ?_
        exact law_fewest h_fewest Cx1 Cx2 hdis hX hbl hv hl Kn hI hWx hWm
      by_cases v9 : z = 9
      · refine lv_tableIn (off := 502) (tgt := 535) hx hb dL_law_33 (by rw [v9]; decide) (by rw [v9]; decide) (by rw [v9]; rfl) (by decide) ?_
        exact law_halls h_halls Cx1 Cx2 hdis hX hbl hv hl Kn hI hWx hWm
      by_cases v10 : z = 10
      · refine lv_tableIn (off := 515) (tgt := 548) hx hb dL_law_33 (by rw [v10]; decide) (by rw [v10]; decide) (by rw [v10]; rfl) (by decide) ?_
        exact law_alone h_alone Cx1 Cx2 hdis hX hbl hv hl Kn hI hWx hWm
      by_cases v11 : z = 11
      · refine lv_tableIn (off := 538) (tgt := 571) hx hb dL_law_33 (by rw [v11]; decide) (by rw [v11]; decide) (by rw [v11]; rfl) (by decide) ?_
        exact law_idle h_idle Cx1 Cx2 hdis hX hbl hv hl Kn hI hWx hWm
      by_cases v12 : z = 12
      · refine lv_tableIn (off := 551) (tgt := 584) hx hb dL_law_33 (by rw [v12]; decide) (by rw [v12]; decide) (by rw [v12]; rfl) (by decide) ?_
        exact law_spare h_spare Cx1 Cx2 hdis hX hbl hv hl Kn hI hWx hWm
      by_cases v13 : z = 13
      · refine lv_tableIn (off := 564) (tgt := 597) hx hb dL_law_33 (by rw [v13]; decide) (by rw [v13]; decide) (by rw [v13]; rfl) (by decide) ?_
        exact law_reading h_reading Cx1 Cx2 hdis hX hbl hv hl Kn hI hWx hWm
      by_cases v14 : z = 14
      · refine lv_tableIn (off := 607) (tgt := 640) hx hb dL_law_33 (by rw [v14]; decide) (by rw [v14]; decide) (by rw [v14]; rfl) (by decide) ?_
        exact law_back h_back Cx1 Cx2 hdis hX hbl hv hl Kn hI hWx hWm
      by_cases v15 : z = 15
      · refine lv_tableIn (off := 630) (tgt := 663) hx hb dL_law_33 (by rw [v15]; decide) (by rw [v15]; decide) (by rw [v15]; rfl) (by decide) ?_
        exact law_turnings h_turnings Cx1 Cx2 hdis hX hbl hv hl Kn hI hWx hWm
      by_cases v16 : z = 16
      · refine lv_tableIn (off := 653) (tgt := 686) hx hb dL_law_33 (by rw [v16]; decide) (by rw [v16]; decide) (by rw [v16]; rfl) (by decide) ?_
        exact law_kinds h_kinds Cx1 Cx2 hdis hX hbl hv hl Kn hI hWx hWm
      by_cases v17 : z = 17
      · refine lv_tableIn (off := 676) (tgt := 709) hx hb dL_law_33 (by rw [v17]; decide) (by rw [v17]; decide) (by rw [v17]; rfl) (by decide) ?_
        exact law_shadings h_shadings Cx1 Cx2 hdis hX hbl hv hl Kn hI hWx hWm
      by_cases v18 : z = 18
      · refine lv_tableIn (off := 699) (tgt := 732) hx hb dL_law_33 (by rw [v18]; decide) (by rw [v18]; decide) (by rw [v18]; rfl) (by decide) ?_
        exact law_odds h_odds Cx1 Cx2 hdis hX hbl hv hl Kn hI hWx hWm
      by_cases v19 : z = 19
      · refine lv_tableIn (off := 733) (tgt := 766) hx hb dL_law_33 (by rw [v19]; decide) (by rw [v19]; decide) (by rw [v19]; rfl) (by decide) ?_
        exact law_sheet h_sheet Cx1 Cx2 hdis hX hbl hv hl Kn hI hWx hWm
      by_cases v20 : z = 20
      · refine lv_tableIn (off := 776) (tgt := 809) hx hb dL_law_33 (by rw [v20]; decide) (by rw [v20]; decide) (by rw [v20]; rfl) (by decide) ?_
        exact law_lose h_lose Cx1 Cx2 hdis hX hbl hv hl Kn hI hWx hWm
      by_cases v21 : z = 21
      · refine lv_tableIn (off := 799) (tgt := 832) hx hb dL_law_33 (by rw [v21]; decide) (by rw [v21]; decide) (by rw [v21]; rfl) (by decide) ?_
        exact law_put h_put Cx1 Cx2 hdis hX hbl hv hl Kn hI hWx hWm
      by_cases v22 : z = 22
      · refine lv_tableIn (off := 842) (tgt := 875) hx hb dL_law_33 (by rw [v22]; decide) (by rw [v22]; decide) (by rw [v22]; rfl) (by decide) ?_
        exact law_cell h_cell Cx1 Cx2 hdis hX hbl hv hl Kn hI hWx hWm
      by_cases v23 : z = 23
      · refine lv_tableIn (off := 886) (tgt := 919) hx hb dL_law_33 (by rw [v23]; decide) (by rw [v23]; decide) (by rw [v23]; rfl) (by decide) ?_
        exact law_copy h_copy Cx1 Cx2 hdis hX hbl hv hl Kn hI hWx hWm
      by_cases v24 : z = 24
      · refine lv_tableIn (off := 949) (tgt := 982) hx hb dL_law_33 (by rw [v24]; decide) (by rw [v24]; decide) (by rw [v24]; rfl) (by decide) ?_
        exact law_tell h_tell Cx1 Cx2 hdis hX hbl hv hl Kn hI hWx hWm
      by_cases v25 : z = 25
      · refine lv_tableIn (off := 972) (tgt := 1005) hx hb dL_law_33 (by rw [v25]; decide) (by rw [v25]; decide) (by rw [v25]; rfl) (by decide) ?_
        exact law_feel h_feel Cx1 Cx2 hdis hX hbl hv hl Kn hI hWx hWm
      by_cases v26 : z = 26
      · refine lv_tableIn (off := 995) (tgt := 1028) hx hb dL_law_33 (by rw [v26]; decide) (by rw [v26]; decide) (by rw [v26]; rfl) (by decide) ?_
        exact law_as h_as Cx1 Cx2 hdis hX hbl hv hl Kn hI hWx hWm
      by_cases v27 : z = 27
      · refine lv_tableIn (off := 1028) (tgt := 1061) hx hb dL_law_33 (by rw [v27]; decide) (by rw [v27]; decide) (by rw [v27]; rfl) (by decide) ?_
        exact law_trace h_trace Cx1 Cx2 hdis hX hbl hv hl Kn hI hWx hWm
      by_cases v28 : z = 28
      · refine lv_tableIn (off := 1041) (tgt := 1074) hx hb dL_law_33 (by rw [v28]; decide) (by rw [v28]; decide) (by rw [v28]; rfl) (by decide) ?_
        exact law_fault h_fault Cx1 Cx2 hdis hX hbl hv hl Kn hI hWx hWm
      by_cases v29 : z = 29
      · refine lv_tableIn (off := 1054) (tgt := 1087) hx hb dL_law_33 (by rw [v29]; decide) (by rw [v29]; decide) (by rw [v29]; rfl) (by decide) ?_
        exact law_many h_many Cx1 Cx2 hdis hX hbl hv hl Kn hI hWx hWm
      have w0 := ne_i 0 0 (by decide) v0
      have w1 := ne_i 1 1 (by decide) v1
      have w2 := ne_i 2 2 (by decide) v2
      have w3 := ne_i 3 3 (by decide) v3
      have w4 := ne_i 4 4 (by decide) v4
      have w5 := ne_i 5 5 (by decide) v5
      have w6 := ne_i 6 6 (by decide) v6
      have w7 := ne_i 7 7 (by decide) v7
      have w8 := ne_i 8 8 (by decide) v8
      have w9 := ne_i 9 9 (by decide) v9
      have w10 := ne_i 10 10 (by decide) v10
      have w11 := ne_i 11 11 (by decide) v11
      have w12 := ne_i 12 12 (by decide) v12
      have w13 := ne_i 13 13 (by decide) v13
      have w14 := ne_i 14 14 (by decide) v14
      have w15 := ne_i 15 15 (by decide) v15
      have w16 := ne_i 16 16 (by decide) v16
      have w17 := ne_i 17 17 (by decide) v17
      have w18 := ne_i 18 18 (by decide) v18
      have w19 := ne_i 19 19 (by decide) v19
      have w20 := ne_i 20 20 (by decide) v20
      have w21 := ne_i 21 21 (by decide) v21
      have w22 := ne_i 22 22 (by decide) v22
      have w23 := ne_i 23 23 (by decide) v23
      have w24 := ne_i 24 24 (by decide) v24
      have w25 := ne_i 25 25 (by decide) v25
      have w26 := ne_i 26 26 (by decide) v26
      have w27 := ne_i 27 27 (by decide) v27
      have w28 := ne_i 28 28 (by decide) v28
      have w29 := ne_i 29 29 (by decide) v29
      refine lv_tableOut (tgt := 1110) hx hb dL_law_33 (by omega) (by decide) ?_
      exact Kn _ _ _ _ hI hWx hWm
def SX0 : St := fun k => match k with
  | 3 => upd (fun _ => 0) 6 (-1)
  | 8 => upd (fun _ => 0) 2 (-1)
  | 9 => upd (fun _ => 0) 2 (-1)
  | 10 => upd (fun _ => 0) 2 (-1)
  | 11 => upd (fun _ => 0) 2 (-1)
  | _ => fun _ => 0
def SM0 : St := fun k => match k with
  | 1 => upd (upd (upd (upd (fun _ => 0) 0 (-9)) 1 (-9)) 2 (-9)) 3 (-9)
  | _ => fun _ => 0
def adX (h0 : Nat) (u : Nat → Nat) : Nat → Nat := fun k => ([h0, u 0, u 7, u 9, u 20, u 24, u 26, u 11, u 28, u 30, u 32, u 34, u 29, u 31, u 33, u 35, u 12, u 13, u 14, u 15, u 16, u 27, u 1, u 2, u 3, u 4, u 5, u 6, u 8, u 10, u 17, u 18, u 19, u 21, u 22, u 23, u 25] : List Nat).getD k 0
def adM (h0 : Nat) (u : Nat → Nat) : Nat → Nat := fun k => ([h0, u 0, u 1, u 2, u 3, u 4, u 5, u 6, u 7, u 8, u 9, u 10, u 11, u 12, u 13, u 14, u 15, u 16] : List Nat).getD k 0
theorem wX_eq {G : Geo} {h0 : Nat} {u : Nat → Nat} {H : Heap} {A : Nat → Prop} (hP : va_P G.1 vwCl [(h0, .inr (6, [.ref (u 0), .ref (u 7), .ref (u 9), .ref (u 20), .ref (u 24), .ref (u 26), .ref (u 27), .int 0, .int 0])), ((u 0), .inr (1, [.int 0, .ref (u 1), .ref (u 2), .int 0, .ref (u 3), .ref (u 4), .ref (u 5), .ref (u 6)])), ((u 1), .inl (G.2.2.1, 5, .inl (fun _ => 0))), ((u 2), .inl (G.2.2.1, 5, .inl (fun _ => 0))), ((u 3), .inl (G.2.2.1, 5, .inl (fun _ => 0))), ((u 4), .inl (G.2.2.1, 5, .inl (fun _ => 0))), ((u 5), .inl (G.2.2.1, 5, .inl (fun _ => 0))), ((u 6), .inl (G.2.2.1, 5, .inl (fun _ => 0))), ((u 7), .inr (5, [.ref (u 8), .int 0, .int 0, .int 0])), ((u 8), .inl (G.2.2.1, 60, .inl (fun _ => 0))), ((u 9), .inr (2, [.ref (u 10), .ref (u 11), .ref (u 17), .ref (u 18), .ref (u 19), .int 0, .int ((-1))])), ((u 10), .inl (G.2.2.1, 5, .inl (fun _ => 0))), ((u 11), .inl (G.2.2.2.2, 5, .inr (.inr (.inr (.inr (fun i => if i < 5 then some (([(u 12), (u 13), (u 14), (u 15), (u 16)] : List Nat).getD i 0) else none)))))), ((u 12), .inl (G.2.2.1, 5, .inl (fun _ => 0))), ((u 13), .inl (G.2.2.1, 5, .inl (fun _ => 0))), ((u 14), .inl (G.2.2.1, 5, .inl (fun _ => 0))), ((u 15), .inl (G.2.2.1, 5, .inl (fun _ => 0))), ((u 16), .inl (G.2.2.1, 5, .inl (fun _ => 0))), ((u 17), .inl (G.2.2.1, 5, .inl (fun _ => 0))), ((u 18), .inl (G.2.2.1, 3125, .inl (fun _ => 0))), ((u 19), .inl (G.2.2.1, 3125, .inl (fun _ => 0))), ((u 20), .inr (3, [.int 0, .ref (u 21), .ref (u 22), .ref (u 23)])), ((u 21), .inl (G.2.2.1, 8, .inl (fun _ => 0))), ((u 22), .inl (G.2.2.1, 8, .inl (fun _ => 0))), ((u 23), .inl (G.2.2.1, 8, .inl (fun _ => 0))), ((u 24), .inr (0, [.ref (u 25), .int 0, .int 0, .int 0])), ((u 25), .inl (G.2.2.1, 5, .inl (fun _ => 0))), ((u 26), .inl (G.2.2.2.1, 4, .inr (.inr (.inr (.inr (va_up (va_up (va_up (va_up (fun _ => none) 0 (some (u 28))) 1 (some (u 30))) 2 (some (u 32))) 3 (some (u 34)))))))), ((u 27), .inl (G.2.2.1, 5, .inl (fun _ => 0))), ((u 28), .inr (4, [.int 0, .ref (u 29), .int ((-1))])), ((u 29), .inl (G.2.2.1, 60, .inl (fun _ => 0))), ((u 30), .inr (4, [.int 0, .ref (u 31), .int ((-1))])), ((u 31), .inl (G.2.2.1, 60, .inl (fun _ => 0))), ((u 32), .inr (4, [.int 0, .ref (u 33), .int ((-1))])), ((u 33), .inl (G.2.2.1, 60, .inl (fun _ => 0))), ((u 34), .inr (4, [.int 0, .ref (u 35), .int ((-1))])), ((u 35), .inl (G.2.2.1, 60, .inl (fun _ => 0)))] H) (hD : va_D A [(h0, .inr (6, [.ref (u 0), .ref (u 7), .ref (u 9), .ref (u 20), .ref (u 24), .ref (u 26), .ref (u 27), .int 0, .int 0])), ((u 0), .inr (1, [.int 0, .ref (u 1), .ref (u 2), .int 0, .ref (u 3), .ref (u 4), .ref (u 5), .ref (u 6)])), ((u 1), .inl (G.2.2.1, 5, .inl (fun _ => 0))), ((u 2), .inl (G.2.2.1, 5, .inl (fun _ => 0))), ((u 3), .inl (G.2.2.1, 5, .inl (fun _ => 0))), ((u 4), .inl (G.2.2.1, 5, .inl (fun _ => 0))), ((u 5), .inl (G.2.2.1, 5, .inl (fun _ => 0))), ((u 6), .inl (G.2.2.1, 5, .inl (fun _ => 0))), ((u 7), .inr (5, [.ref (u 8), .int 0, .int 0, .int 0])), ((u 8), .inl (G.2.2.1, 60, .inl (fun _ => 0))), ((u 9), .inr (2, [.ref (u 10), .ref (u 11), .ref (u 17), .ref (u 18), .ref (u 19), .int 0, .int ((-1))])), ((u 10), .inl (G.2.2.1, 5, .inl (fun _ => 0))), ((u 11), .inl (G.2.2.2.2, 5, .inr (.inr (.inr (.inr (fun i => if i < 5 then some (([(u 12), (u 13), (u 14), (u 15), (u 16)] : List Nat).getD i 0) else none)))))), ((u 12), .inl (G.2.2.1, 5, .inl (fun _ => 0))), ((u 13), .inl (G.2.2.1, 5, .inl (fun _ => 0))), ((u 14), .inl (G.2.2.1, 5, .inl (fun _ => 0))), ((u 15), .inl (G.2.2.1, 5, .inl (fun _ => 0))), ((u 16), .inl (G.2.2.1, 5, .inl (fun _ => 0))), ((u 17), .inl (G.2.2.1, 5, .inl (fun _ => 0))), ((u 18), .inl (G.2.2.1, 3125, .inl (fun _ => 0))), ((u 19), .inl (G.2.2.1, 3125, .inl (fun _ => 0))), ((u 20), .inr (3, [.int 0, .ref (u 21), .ref (u 22), .ref (u 23)])), ((u 21), .inl (G.2.2.1, 8, .inl (fun _ => 0))), ((u 22), .inl (G.2.2.1, 8, .inl (fun _ => 0))), ((u 23), .inl (G.2.2.1, 8, .inl (fun _ => 0))), ((u 24), .inr (0, [.ref (u 25), .int 0, .int 0, .int 0])), ((u 25), .inl (G.2.2.1, 5, .inl (fun _ => 0))), ((u 26), .inl (G.2.2.2.1, 4, .inr (.inr (.inr (.inr (va_up (va_up (va_up (va_up (fun _ => none) 0 (some (u 28))) 1 (some (u 30))) 2 (some (u 32))) 3 (some (u 34)))))))), ((u 27), .inl (G.2.2.1, 5, .inl (fun _ => 0))), ((u 28), .inr (4, [.int 0, .ref (u 29), .int ((-1))])), ((u 29), .inl (G.2.2.1, 60, .inl (fun _ => 0))), ((u 30), .inr (4, [.int 0, .ref (u 31), .int ((-1))])), ((u 31), .inl (G.2.2.1, 60, .inl (fun _ => 0))), ((u 32), .inr (4, [.int 0, .ref (u 33), .int ((-1))])), ((u 33), .inl (G.2.2.1, 60, .inl (fun _ => 0))), ((u 34), .inr (4, [.int 0, .ref (u 35), .int ((-1))])), ((u 35), .inl (G.2.2.1, 60, .inl (fun _ => 0)))]) : va_P G.1 vwCl (wld 37 eX (G.1, adX h0 u, G.2.2) SX0) H ∧ va_D A (wld 37 eX (G.1, adX h0 u, G.2.2) SX0) := by
  have hf : (va_up (va_up (va_up (va_up (fun _ => none) 0 (some (u 28))) 1 (some (u 30))) 2 (some (u 32))) 3 (some (u 34)) : Nat → Option Nat) = fun i => if i < 4 then some (adX h0 u (8 + i)) else none := by
    funext i
    match i with
    | 0 => rfl
    | 1 => rfl
    | 2 => rfl
    | 3 => rfl
    | i + 4 =>
      rw [if_neg (by omega)]
      simp [va_up]
  have hg : (fun i => if i < 5 then some (([(u 12), (u 13), (u 14), (u 15), (u 16)] : List Nat).getD i 0) else none : Nat → Option Nat) = fun i => if i < 5 then some (adX h0 u (16 + i)) else none := by
    funext i
    match i with
    | 0 => rfl
    | 1 => rfl
    | 2 => rfl
    | 3 => rfl
    | 4 => rfl
    | i + 5 => rw [if_neg (by omega), if_neg (by omega)]
  rw [hf, hg] at hP hD
  exact ⟨hP.sub [0, 1, 8, 10, 21, 25, 27, 12, 29, 31, 33, 35, 30, 32, 34, 36, 13, 14, 15, 16, 17, 28, 2, 3, 4, 5, 6, 7, 9, 11, 18, 19, 20, 22, 23, 24, 26] rfl, hD.sub [0, 1, 8, 10, 21, 25, 27, 12, 29, 31, 33, 35, 30, 32, 34, 36, 13, 14, 15, 16, 17, 28, 2, 3, 4, 5, 6, 7, 9, 11, 18, 19, 20, 22, 23, 24, 26] (by decide) rfl⟩
theorem wM_eq {G : Geo} {h0 : Nat} {u : Nat → Nat} {H : Heap} {A : Nat → Prop} (hP : va_P G.1 vwCl [(h0, .inr (7, [.int 0, .int 0, .ref (u 0), .ref (u 1), .ref (u 2), .int 0, .int 0, .int 0, .ref (u 3), .ref (u 4), .ref (u 5), .ref (u 6), .ref (u 7), .ref (u 8), .int 0, .int 0, .int 0, .ref (u 9), .ref (u 10), .ref (u 11), .int 0, .int 0, .ref (u 12), .ref (u 13), .int 0, .ref (u 14), .ref (u 15), .ref (u 16)])), ((u 0), .inl (G.2.2.1, 4, .inl (upd (upd (upd (upd (fun _ => 0) 0 (-9)) 1 (-9)) 2 (-9)) 3 (-9)))), ((u 1), .inl (G.2.2.1, 4, .inl (fun _ => 0))), ((u 2), .inl (G.2.2.1, 240, .inl (fun _ => 0))), ((u 3), .inl (G.2.2.1, 5, .inl (fun _ => 0))), ((u 4), .inl (G.2.2.1, 5, .inl (fun _ => 0))), ((u 5), .inl (G.2.2.1, 5, .inl (fun _ => 0))), ((u 6), .inl (G.2.2.1, 5, .inl (fun _ => 0))), ((u 7), .inl (G.2.2.1, 5, .inl (fun _ => 0))), ((u 8), .inl (G.2.2.1, 5, .inl (fun _ => 0))), ((u 9), .inl (G.2.2.1, 5, .inl (fun _ => 0))), ((u 10), .inl (G.2.2.1, 15, .inl (fun _ => 0))), ((u 11), .inl (G.2.2.1, 5, .inl (fun _ => 0))), ((u 12), .inl (G.2.2.1, 3125, .inl (fun _ => 0))), ((u 13), .inl (G.2.2.1, 3125, .inl (fun _ => 0))), ((u 14), .inl (G.2.2.1, 8, .inl (fun _ => 0))), ((u 15), .inl (G.2.2.1, 8, .inl (fun _ => 0))), ((u 16), .inl (G.2.2.1, 8, .inl (fun _ => 0)))] H) (hD : va_D A [(h0, .inr (7, [.int 0, .int 0, .ref (u 0), .ref (u 1), .ref (u 2), .int 0, .int 0, .int 0, .ref (u 3), .ref (u 4), .ref (u 5), .ref (u 6), .ref (u 7), .ref (u 8), .int 0, .int 0, .int 0, .ref (u 9), .ref (u 10), .ref (u 11), .int 0, .int 0, .ref (u 12), .ref (u 13), .int 0, .ref (u 14), .ref (u 15), .ref (u 16)])), ((u 0), .inl (G.2.2.1, 4, .inl (upd (upd (upd (upd (fun _ => 0) 0 (-9)) 1 (-9)) 2 (-9)) 3 (-9)))), ((u 1), .inl (G.2.2.1, 4, .inl (fun _ => 0))), ((u 2), .inl (G.2.2.1, 240, .inl (fun _ => 0))), ((u 3), .inl (G.2.2.1, 5, .inl (fun _ => 0))), ((u 4), .inl (G.2.2.1, 5, .inl (fun _ => 0))), ((u 5), .inl (G.2.2.1, 5, .inl (fun _ => 0))), ((u 6), .inl (G.2.2.1, 5, .inl (fun _ => 0))), ((u 7), .inl (G.2.2.1, 5, .inl (fun _ => 0))), ((u 8), .inl (G.2.2.1, 5, .inl (fun _ => 0))), ((u 9), .inl (G.2.2.1, 5, .inl (fun _ => 0))), ((u 10), .inl (G.2.2.1, 15, .inl (fun _ => 0))), ((u 11), .inl (G.2.2.1, 5, .inl (fun _ => 0))), ((u 12), .inl (G.2.2.1, 3125, .inl (fun _ => 0))), ((u 13), .inl (G.2.2.1, 3125, .inl (fun _ => 0))), ((u 14), .inl (G.2.2.1, 8, .inl (fun _ => 0))), ((u 15), .inl (G.2.2.1, 8, .inl (fun _ => 0))), ((u 16), .inl (G.2.2.1, 8, .inl (fun _ => 0)))]) : va_P G.1 vwCl (wld 18 eM (G.1, adM h0 u, G.2.2) SM0) H ∧ va_D A (wld 18 eM (G.1, adM h0 u, G.2.2) SM0) :=
  ⟨hP.sub [0, 1, 2, 3, 4, 5, 6, 7, 8, 9, 10, 11, 12, 13, 14, 15, 16, 17] rfl, hD.sub [0, 1, 2, 3, 4, 5, 6, 7, 8, 9, 10, 11, 12, 13, 14, 15, 16, 17] (by decide) rfl⟩
