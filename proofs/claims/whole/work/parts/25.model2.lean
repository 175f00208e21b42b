def f_X7_isSign (S : St) (a0 : Int32) (a1 : Int32) : Option (Bool × St) :=
  if a0 ≤ (S 0 14) then (some (false, S)) else (ck (okx (S 0 14) 240) <| if (S 3 (ix (S 0 14))) = a1 then (some (true, up S 0 14 ((S 0 14) + ((1 : Int32))))) else (some (false, S)))
set_option maxHeartbeats 4000000 in
set_option maxRecDepth 100000 in
theorem w_f_X7_isSign {G : Geo} {p : Program} {l : Launch} {e : Env} {s : State} {m : MethodId} {args : Array Value} {below : List Frame} {meth : Method} {c : Code} {A : Nat → Prop} {H0 : Heap} {Q : State → Prop} (C : Cx G RX7 cX7_isSign 3 p s m args c) {S : St} {a0 : Int32} {a1 : Int32} {o : Bool × St} (h : f_X7_isSign S a0 a1 = some o) (K : KI 18 eM G A H0 cX7_isSign p l e 0 s m args below meth c Q (bi ((o).1)) ((o).2)) : ∀ (H : Heap) (locs : List Loc) (ls : Array Slot), HM G A H0 S H locs → lv_has ls 3 [(0, .ref (adr G 0)), (1, .int a0), (2, .int a1)] → W p l e (rmK 0) s m args below meth c H locs 0 0 Q (F0 m 0 ls []) := by
  obtain ⟨hx, hb, -⟩ := id C
  intro H locs ls hW hl
  unfold f_X7_isSign at h
  refine lv_aload_n hx hb dX7_isSign_0 rfl (lv_at hl 0 rfl) ?_
  refine gf_RX7_77 C hW dX7_isSign_1 ?_
  refine lv_iload_n hx hb dX7_isSign_4 rfl (lv_at hl 1 rfl) ?_
  refine lv_icmp_ge (tgt := 21) hx hb dX7_isSign_5 (by decide) (fun b5 => ?_) (fun b5 => ?_)
  · have h := it_t b5 h
    refine lv_iconst (v := 0) hx hb dX7_isSign_21 (by decide) ?_
    obtain rfl := Option.some.inj h
    exact K _ _ _ _ dX7_isSign_22 hW
  · have h := it_f b5 h
    refine lv_aload_n hx hb dX7_isSign_8 rfl (lv_at hl 0 rfl) ?_
    refine gf_RX7_16 C hW dX7_isSign_9 ?_
    refine lv_aload_n hx hb dX7_isSign_12 rfl (lv_at hl 0 rfl) ?_
    refine gf_RX7_77 C hW dX7_isSign_13 ?_
    obtain ⟨g16, h⟩ := ck_some h
    refine x_iald C hW (k := 3) (n := 240) (by decide) (fun _ => rfl) g16 dX7_isSign_16 ?_
    refine lv_iload_n hx hb dX7_isSign_17 rfl (lv_at hl 2 rfl) ?_
    refine lv_icmp_eq (tgt := 23) hx hb dX7_isSign_18 (by decide) (fun b18 => ?_) (fun b18 => ?_)
    · have h := it_t b18 h
      refine lv_aload_n hx hb dX7_isSign_23 rfl (lv_at hl 0 rfl) ?_
      refine lv_dup hx hb dX7_isSign_24 rfl ?_
      refine gf_RX7_77 C hW dX7_isSign_25 ?_
      refine lv_iconst (v := 1) hx hb dX7_isSign_28 (by decide) ?_
      refine lv_iadd hx hb dX7_isSign_29 ?_
      refine pf_RX7_77 C hW dX7_isSign_30 (fun H locs hW => ?_)
      refine lv_iconst (v := 1) hx hb dX7_isSign_33 (by decide) ?_
      obtain rfl := Option.some.inj h
      exact K _ _ _ _ dX7_isSign_34 hW
    · have h := it_f b18 h
      refine lv_iconst (v := 0) hx hb dX7_isSign_21 (by decide) ?_
      obtain rfl := Option.some.inj h
      exact K _ _ _ _ dX7_isSign_22 hW
set_option maxRecDepth 100000 in
theorem c_X7_isSign (l : Launch) (G : Geo) {S : St} {a0 : Int32} {a1 : Int32} {o : Bool × St} (h : f_X7_isSign S a0 a1 = some o) : MI 18 eM G l yX7_isSign cX7_isSign 3 (some .boolean) 0 [.ref (adr G 0), .int a0, .int a1] S (bi o.1) o.2 :=
  mZ_of (by decide +kernel) (Nat.le_of_ble_eq_true rfl) (fun p e s m below meth c A H0 Q C K => w_f_X7_isSign C h K)
def i_X7_readSwitch_132 (S : St) (x1 : Int32) (x3 : Int32) (x4 : Int32) : Option ((St × Int32) ⊕ ((St × Int32) ⊕ (Bool × St))) :=
  if (S 0 15) ≤ x4 then (some (.inr (.inl (S, x4)))) else (bd (f_X7_digit S x1 ((0 : Int32)) ((1 : Int32))) fun r145 => if r145.1 = ((-9 : Int32)) then (some (.inr (.inr (false, r145.2)))) else (ck (okx (x3 + ((2 : Int32))) 15) <| ck (okx (x3 + ((2 : Int32))) 15) <| some (.inl (up r145.2 11 (ix (x3 + ((2 : Int32)))) ((r145.2 11 (ix (x3 + ((2 : Int32))))) + (shl32 r145.1 x4)), x4 + (1 : Int32)))))
set_option maxHeartbeats 4000000 in
set_option maxRecDepth 100000 in
theorem w_i_X7_readSwitch_132 {G : Geo} {p : Program} {l : Launch} {e : Env} {s : State} {m : MethodId} {args : Array Value} {below : List Frame} {meth : Method} {c : Code} {A : Nat → Prop} {H0 : Heap} {Q : State → Prop} (C : Cx G RX7 cX7_readSwitch 6 p s m args c) {S : St} {x1 : Int32} {x3 : Int32} {x4 : Int32} {o : (St × Int32) ⊕ ((St × Int32) ⊕ (Bool × St))} (h : i_X7_readSwitch_132 S x1 x3 x4 = some o) (Kn : ∀ q, o = .inl q → ∀ (H : Heap) (locs : List Loc) (ls : Array Slot), HM G A H0 q.1 H locs → lv_has ls 6 [(0, .ref (adr G 0)), (1, .int x1), (3, .int x3), (4, .int (q.2))] → W p l e (rmK 2) s m args below meth c H locs 0 0 Q (F0 m 132 ls [])) (Kt : ∀ u, o = .inr u → (∀ q, u = .inl q → ∀ (H : Heap) (locs : List Loc) (ls : Array Slot), HM G A H0 q.1 H locs → lv_has ls 6 [(0, .ref (adr G 0))] → W p l e (rmK 2) s m args below meth c H locs 0 0 Q (F0 m 181 ls [])) ∧ (∀ r, u = .inr r → KI 18 eM G A H0 cX7_readSwitch p l e 2 s m args below meth c Q (bi ((r).1)) ((r).2))) : ∀ (H : Heap) (locs : List Loc) (ls : Array Slot), HM G A H0 S H locs → lv_has ls 6 [(0, .ref (adr G 0)), (1, .int x1), (3, .int x3), (4, .int x4)] → W p l e (rmK 2) s m args below meth c H locs 0 0 Q (F0 m 132 ls []) := by
  obtain ⟨hx, hb, -⟩ := id C
  intro H locs ls hW hl
  unfold i_X7_readSwitch_132 at h
  refine lv_iload hx hb dX7_readSwitch_132 (lv_at hl 3 rfl) ?_
  refine lv_aload_n hx hb dX7_readSwitch_134 rfl (lv_at hl 0 rfl) ?_
  refine gf_RX7_101 C hW dX7_readSwitch_135 ?_
  refine lv_icmp_ge (tgt := 181) hx hb dX7_readSwitch_138 (by decide) (fun b138 => ?_) (fun b138 => ?_)
  · have h := it_t b138 h
    obtain rfl := Option.some.inj h
    exact (Kt _ rfl).1 _ rfl _ _ _ hW (lv_sub hl [0] rfl)
  · have h := it_f b138 h
    refine lv_aload_n hx hb dX7_readSwitch_141 rfl (lv_at hl 0 rfl) ?_
    refine lv_iload_n hx hb dX7_readSwitch_142 rfl (lv_at hl 1 rfl) ?_
    refine lv_iconst (v := 0) hx hb dX7_readSwitch_143 (by decide) ?_
    refine lv_iconst (v := 1) hx hb dX7_readSwitch_144 (by decide) ?_
    obtain ⟨r145, r145h, h⟩ := bd_some h
    refine x_backI hW (x_runV (As := [.int x1, .int ((0 : Int32)), .int ((1 : Int32))]) (rest := []) C hW (c_X7_digit l G r145h H.size) cv_RX7_117 rv_X7 hl.1 rfl rfl ⟨by decide, by decide⟩ (Nat.le_of_ble_eq_true rfl) ⟨Nat.zero_le _, Nat.zero_le _⟩ dX7_readSwitch_145) (fun H locs hW => ?_)
    refine lv_istore (lv' := [(5, .int (r145.1)), (0, .ref (adr G 0)), (1, .int x1), (3, .int x3), (4, .int x4)]) hx hb dX7_readSwitch_148 hl (by decide) rfl (fun ls hl => ?_)
    refine lv_iload hx hb dX7_readSwitch_150 (lv_at hl 0 rfl) ?_
    refine lv_bipush (v := (-9)) hx hb dX7_readSwitch_152 (by decide) ?_
    refine lv_icmp_ne (tgt := 159) hx hb dX7_readSwitch_154 (by decide) (fun b154 => ?_) (fun b154 => ?_)
    · have h := it_f b154 h
      refine lv_aload_n hx hb dX7_readSwitch_159 rfl (lv_at hl 1 rfl) ?_
      refine gf_RX7_40 C hW dX7_readSwitch_160 ?_
      refine lv_iload_n hx hb dX7_readSwitch_163 rfl (lv_at hl 3 rfl) ?_
      refine lv_iconst (v := 2) hx hb dX7_readSwitch_164 (by decide) ?_
      refine lv_iadd hx hb dX7_readSwitch_165 ?_
      refine lv_dup2_11 hx hb dX7_readSwitch_166 rfl rfl ?_
      obtain ⟨g167, h⟩ := ck_some h
      refine x_iald C hW (k := 11) (n := 15) (by decide) (fun _ => rfl) g167 dX7_readSwitch_167 ?_
      refine lv_iload hx hb dX7_readSwitch_168 (lv_at hl 0 rfl) ?_
      refine lv_iload hx hb dX7_readSwitch_170 (lv_at hl 4 rfl) ?_
      refine lv_ishl hx hb dX7_readSwitch_172 ?_
      refine lv_iadd hx hb dX7_readSwitch_173 ?_
      obtain ⟨g174, h⟩ := ck_some h
      refine x_iast C hW (k := 11) (n := 15) (by decide) (fun _ => rfl) g174 dX7_readSwitch_174 (fun H locs hW => ?_)
      refine lv_iinc (v := (x4 + (1 : Int32))) (lv' := [(4, .int (x4 + (1 : Int32))), (5, .int (r145.1)), (0, .ref (adr G 0)), (1, .int x1), (3, .int x3)]) hx hb dX7_readSwitch_175 hl (k := 4) rfl rfl (by decide) rfl (fun ls hl => ?_)
      refine lv_goto (tgt := 132) hx hb dX7_readSwitch_178 (by decide) ?_
      obtain rfl := Option.some.inj h
      exact Kn _ rfl _ _ _ hW (lv_sub hl [2, 3, 4, 0] rfl)
    · have h := it_t b154 h
      refine lv_iconst (v := 0) hx hb dX7_readSwitch_157 (by decide) ?_
      obtain rfl := Option.some.inj h
      exact (Kt _ rfl).2 _ rfl _ _ _ _ dX7_readSwitch_158 hW
set_option maxHeartbeats 4000000 in
set_option maxRecDepth 100000 in
theorem l_i_X7_readSwitch_132 {G : Geo} {p : Program} {l : Launch} {e : Env} {s : State} {m : MethodId} {args : Array Value} {below : List Frame} {meth : Method} {c : Code} {A : Nat → Prop} {H0 : Heap} {Q : State → Prop} (C : Cx G RX7 cX7_readSwitch 6 p s m args c) {x1 : Int32} {x3 : Int32} {n : Nat} {q0 : St × Int32} {u : (St × Int32) ⊕ (Bool × St)} (hq : iter (fun q : St × Int32 => i_X7_readSwitch_132 q.1 x1 x3 q.2) n q0 = some u) (Kt : (∀ q, u = .inl q → ∀ (H : Heap) (locs : List Loc) (ls : Array Slot), HM G A H0 q.1 H locs → lv_has ls 6 [(0, .ref (adr G 0))] → W p l e (rmK 2) s m args below meth c H locs 0 0 Q (F0 m 181 ls [])) ∧ (∀ r, u = .inr r → KI 18 eM G A H0 cX7_readSwitch p l e 2 s m args below meth c Q (bi ((r).1)) ((r).2))) : (fun q : St × Int32 => ∀ (H : Heap) (locs : List Loc) (ls : Array Slot), HM G A H0 q.1 H locs → lv_has ls 6 [(0, .ref (adr G 0)), (1, .int x1), (3, .int x3), (4, .int (q.2))] → W p l e (rmK 2) s m args below meth c H locs 0 0 Q (F0 m 132 ls [])) q0 :=
  iter_W (P := fun q : St × Int32 => ∀ (H : Heap) (locs : List Loc) (ls : Array Slot), HM G A H0 q.1 H locs → lv_has ls 6 [(0, .ref (adr G 0)), (1, .int x1), (3, .int x3), (4, .int (q.2))] → W p l e (rmK 2) s m args below meth c H locs 0 0 Q (F0 m 132 ls [])) (K := fun u => (∀ q, u = .inl q → ∀ (H : Heap) (locs : List Loc) (ls : Array Slot), HM G A H0 q.1 H locs → lv_has ls 6 [(0, .ref (adr G 0))] → W p l e (rmK 2) s m args below meth c H locs 0 0 Q (F0 m 181 ls [])) ∧ (∀ r, u = .inr r → KI 18 eM G A H0 cX7_readSwitch p l e 2 s m args below meth c Q (bi ((r).1)) ((r).2))) (fun q o hit Kn Kt => w_i_X7_readSwitch_132 C  hit Kn Kt) n q0 u hq Kt
def j_X7_readSwitch_66 (S : St) (x1 : Int32) (x3 : Int32) (y0 : Int32) (y1 : Int32) : Option (Bool × St) :=
  ck (okx y1 15) <| ck (okx x3 15) <| if ((up S 11 (ix y1) y0) 11 (ix x3)) = ((-9 : Int32)) then (some (false, up S 11 (ix y1) y0)) else (bd (f_X7_digit (up (up S 11 (ix y1) y0) 0 14 (((up S 11 (ix y1) y0) 0 14) + ((1 : Int32)))) x1 ((1 : Int32)) ((4 : Int32))) fun r101 => ck (okx (x3 + ((1 : Int32))) 15) <| ck (okx (x3 + ((1 : Int32))) 15) <| if ((up r101.2 11 (ix (x3 + ((1 : Int32)))) r101.1) 11 (ix (x3 + ((1 : Int32))))) = ((-9 : Int32)) then (some (false, up r101.2 11 (ix (x3 + ((1 : Int32)))) r101.1)) else (ck (okx (x3 + ((2 : Int32))) 15) <| bd (iter (fun q => i_X7_readSwitch_132 q.1 x1 x3 q.2) BIG (up (up r101.2 11 (ix (x3 + ((1 : Int32)))) r101.1) 11 (ix (x3 + ((2 : Int32)))) ((0 : Int32)), (0 : Int32))) fun u132 => sm u132 (fun q132 => some (true, up q132.1 0 16 ((q132.1 0 16) + ((1 : Int32))))) fun w132 => some w132))
set_option maxHeartbeats 4000000 in
set_option maxRecDepth 100000 in
theorem w_j_X7_readSwitch_66 {G : Geo} {p : Program} {l : Launch} {e : Env} {s : State} {m : MethodId} {args : Array Value} {below : List Frame} {meth : Method} {c : Code} {A : Nat → Prop} {H0 : Heap} {Q : State → Prop} (C : Cx G RX7 cX7_readSwitch 6 p s m args c) {S : St} {x1 : Int32} {x3 : Int32} {y0 : Int32} {y1 : Int32} {o : Bool × St} (h : j_X7_readSwitch_66 S x1 x3 y0 y1 = some o) (K : KI 18 eM G A H0 cX7_readSwitch p l e 2 s m args below meth c Q (bi ((o).1)) ((o).2)) : ∀ (H : Heap) (locs : List Loc) (ls : Array Slot), HM G A H0 S H locs → lv_has ls 6 [(0, .ref (adr G 0)), (1, .int x1), (3, .int x3)] → W p l e (rmK 2) s m args below meth c H locs 0 0 Q (F0 m 66 ls [.int y0, .int y1, .ref (adr G 11)]) := by
  obtain ⟨hx, hb, -⟩ := id C
  intro H locs ls hW hl
  unfold j_X7_readSwitch_66 at h
  obtain ⟨g66, h⟩ := ck_some h
  refine x_iast C hW (k := 11) (n := 15) (by decide) (fun _ => rfl) g66 dX7_readSwitch_66 (fun H locs hW => ?_)
  refine lv_aload_n hx hb dX7_readSwitch_67 rfl (lv_at hl 0 rfl) ?_
  refine gf_RX7_40 C hW dX7_readSwitch_68 ?_
  refine lv_iload_n hx hb dX7_readSwitch_71 rfl (lv_at hl 2 rfl) ?_
  obtain ⟨g72, h⟩ := ck_some h
  refine x_iald C hW (k := 11) (n := 15) (by decide) (fun _ => rfl) g72 dX7_readSwitch_72 ?_
  refine lv_bipush (v := (-9)) hx hb dX7_readSwitch_73 (by decide) ?_
  refine lv_icmp_ne (tgt := 80) hx hb dX7_readSwitch_75 (by decide) (fun b75 => ?_) (fun b75 => ?_)
  · have h := it_f b75 h
    refine lv_aload_n hx hb dX7_readSwitch_80 rfl (lv_at hl 0 rfl) ?_
    refine lv_dup hx hb dX7_readSwitch_81 rfl ?_
    refine gf_RX7_77 C hW dX7_readSwitch_82 ?_
    refine lv_iconst (v := 1) hx hb dX7_readSwitch_85 (by decide) ?_
    refine lv_iadd hx hb dX7_readSwitch_86 ?_
    refine pf_RX7_77 C hW dX7_readSwitch_87 (fun H locs hW => ?_)
    refine lv_aload_n hx hb dX7_readSwitch_90 rfl (lv_at hl 0 rfl) ?_
    refine gf_RX7_40 C hW dX7_readSwitch_91 ?_
    refine lv_iload_n hx hb dX7_readSwitch_94 rfl (lv_at hl 2 rfl) ?_
    refine lv_iconst (v := 1) hx hb dX7_readSwitch_95 (by decide) ?_
    refine lv_iadd hx hb dX7_readSwitch_96 ?_
    refine lv_aload_n hx hb dX7_readSwitch_97 rfl (lv_at hl 0 rfl) ?_
    refine lv_iload_n hx hb dX7_readSwitch_98 rfl (lv_at hl 1 rfl) ?_
    refine lv_iconst (v := 1) hx hb dX7_readSwitch_99 (by decide) ?_
    refine lv_iconst (v := 4) hx hb dX7_readSwitch_100 (by decide) ?_
    obtain ⟨r101, r101h, h⟩ := bd_some h
    refine x_backI hW (x_runV (As := [.int x1, .int ((1 : Int32)), .int ((4 : Int32))]) (rest := [.int (x3 + ((1 : Int32))), .ref (adr G 11)]) C hW (c_X7_digit l G r101h H.size) cv_RX7_117 rv_X7 hl.1 rfl rfl ⟨by decide, by decide⟩ (Nat.le_of_ble_eq_true rfl) ⟨Nat.zero_le _, Nat.zero_le _⟩ dX7_readSwitch_101) (fun H locs hW => ?_)
    obtain ⟨g104, h⟩ := ck_some h
    refine x_iast C hW (k := 11) (n := 15) (by decide) (fun _ => rfl) g104 dX7_readSwitch_104 (fun H locs hW => ?_)
    refine lv_aload_n hx hb dX7_readSwitch_105 rfl (lv_at hl 0 rfl) ?_
    refine gf_RX7_40 C hW dX7_readSwitch_106 ?_
    refine lv_iload_n hx hb dX7_readSwitch_109 rfl (lv_at hl 2 rfl) ?_
    refine lv_iconst (v := 1) hx hb dX7_readSwitch_110 (by decide) ?_
    refine lv_iadd hx hb dX7_readSwitch_111 ?_
    obtain ⟨g112, h⟩ := ck_some h
    refine x_iald C hW (k := 11) (n := 15) (by decide) (fun _ => rfl) g112 dX7_readSwitch_112 ?_
    refine lv_bipush (v := (-9)) hx hb dX7_readSwitch_113 (by decide) ?_
    refine lv_icmp_ne (tgt := 120) hx hb dX7_readSwitch_115 (by decide) (fun b115 => ?_) (fun b115 => ?_)
    · have h := it_f b115 h
      refine lv_aload_n hx hb dX7_readSwitch_120 rfl (lv_at hl 0 rfl) ?_
      refine gf_RX7_40 C hW dX7_readSwitch_121 ?_
      refine lv_iload_n hx hb dX7_readSwitch_124 rfl (lv_at hl 2 rfl) ?_
      refine lv_iconst (v := 2) hx hb dX7_readSwitch_125 (by decide) ?_
      refine lv_iadd hx hb dX7_readSwitch_126 ?_
      refine lv_iconst (v := 0) hx hb dX7_readSwitch_127 (by decide) ?_
      obtain ⟨g128, h⟩ := ck_some h
      refine x_iast C hW (k := 11) (n := 15) (by decide) (fun _ => rfl) g128 dX7_readSwitch_128 (fun H locs hW => ?_)
      refine lv_iconst (v := 0) hx hb dX7_readSwitch_129 (by decide) ?_
      refine lv_istore (lv' := [(4, .int ((0 : Int32))), (0, .ref (adr G 0)), (1, .int x1), (3, .int x3)]) hx hb dX7_readSwitch_130 hl (by decide) rfl (fun ls hl => ?_)
      obtain ⟨u132, u132h, h⟩ := bd_some h
      refine l_i_X7_readSwitch_132 C  u132h ⟨?_, ?_⟩ _ _ _ hW (lv_sub hl [1, 2, 3, 0] rfl)
      · intro q132 hu; subst hu; have h := sm_l h
        intro H locs ls hW hl
        refine lv_aload_n hx hb dX7_readSwitch_181 rfl (lv_at hl 0 rfl) ?_
        refine lv_dup hx hb dX7_readSwitch_182 rfl ?_
        refine gf_RX7_104 C hW dX7_readSwitch_183 ?_
        refine lv_iconst (v := 1) hx hb dX7_readSwitch_186 (by decide) ?_
        refine lv_iadd hx hb dX7_readSwitch_187 ?_
        refine pf_RX7_104 C hW dX7_readSwitch_188 (fun H locs hW => ?_)
        refine lv_iconst (v := 1) hx hb dX7_readSwitch_191 (by decide) ?_
        obtain rfl := Option.some.inj h
        exact K _ _ _ _ dX7_readSwitch_192 hW
      · intro w132 hu; subst hu; have h := sm_r h
        obtain rfl := Option.some.inj h
        exact K
    · have h := it_t b115 h
      refine lv_iconst (v := 0) hx hb dX7_readSwitch_118 (by decide) ?_
      obtain rfl := Option.some.inj h
      exact K _ _ _ _ dX7_readSwitch_119 hW
  · have h := it_t b75 h
    refine lv_iconst (v := 0) hx hb dX7_readSwitch_78 (by decide) ?_
    obtain rfl := Option.some.inj h
    exact K _ _ _ _ dX7_readSwitch_79 hW
def j_X7_readSwitch_21 (S : St) (x1 : Int32) (y0 : Int32) : Option (Bool × St) :=
  if y0 = ((112 : Int32)) then (j_X7_readSwitch_66 S x1 (((3 : Int32)) * (S 0 16)) ((0 : Int32)) (((3 : Int32)) * (S 0 16))) else (if y0 = ((98 : Int32)) then (j_X7_readSwitch_66 S x1 (((3 : Int32)) * (S 0 16)) ((1 : Int32)) (((3 : Int32)) * (S 0 16))) else (if y0 = ((100 : Int32)) then (j_X7_readSwitch_66 S x1 (((3 : Int32)) * (S 0 16)) ((2 : Int32)) (((3 : Int32)) * (S 0 16))) else (j_X7_readSwitch_66 S x1 (((3 : Int32)) * (S 0 16)) ((-9 : Int32)) (((3 : Int32)) * (S 0 16)))))
set_option maxHeartbeats 4000000 in
set_option maxRecDepth 100000 in
theorem w_j_X7_readSwitch_21 {G : Geo} {p : Program} {l : Launch} {e : Env} {s : State} {m : MethodId} {args : Array Value} {below : List Frame} {meth : Method} {c : Code} {A : Nat → Prop} {H0 : Heap} {Q : State → Prop} (C : Cx G RX7 cX7_readSwitch 6 p s m args c) {S : St} {x1 : Int32} {y0 : Int32} {o : Bool × St} (h : j_X7_readSwitch_21 S x1 y0 = some o) (K : KI 18 eM G A H0 cX7_readSwitch p l e 2 s m args below meth c Q (bi ((o).1)) ((o).2)) : ∀ (H : Heap) (locs : List Loc) (ls : Array Slot), HM G A H0 S H locs → lv_has ls 6 [(0, .ref (adr G 0)), (1, .int x1)] → W p l e (rmK 2) s m args below meth c H locs 0 0 Q (F0 m 21 ls [.int y0]) := by
  obtain ⟨hx, hb, -⟩ := id C
  intro H locs ls hW hl
  unfold j_X7_readSwitch_21 at h
  refine lv_istore_n (lv' := [(2, .int y0), (0, .ref (adr G 0)), (1, .int x1)]) hx hb dX7_readSwitch_21 rfl hl (by decide) rfl (fun ls hl => ?_)
  refine lv_iconst (v := 3) hx hb dX7_readSwitch_22 (by decide) ?_
  refine lv_aload_n hx hb dX7_readSwitch_23 rfl (lv_at hl 1 rfl) ?_
  refine gf_RX7_104 C hW dX7_readSwitch_24 ?_
  refine lv_imul hx hb dX7_readSwitch_27 ?_
  refine lv_istore_n (lv' := [(3, .int (((3 : Int32)) * (S 0 16))), (2, .int y0), (0, .ref (adr G 0)), (1, .int x1)]) hx hb dX7_readSwitch_28 rfl hl (by decide) rfl (fun ls hl => ?_)
  refine lv_aload_n hx hb dX7_readSwitch_29 rfl (lv_at hl 2 rfl) ?_
  refine gf_RX7_40 C hW dX7_readSwitch_30 ?_
  refine lv_iload_n hx hb dX7_readSwitch_33 rfl (lv_at hl 0 rfl) ?_
  refine lv_iload_n hx hb dX7_readSwitch_34 rfl (lv_at hl 1 rfl) ?_
  refine lv_bipush (v := 112) hx hb dX7_readSwitch_35 (by decide) ?_
  refine lv_icmp_ne (tgt := 44) hx hb dX7_readSwitch_37 (by decide) (fun b37 => ?_) (fun b37 => ?_)
  · have h := it_f b37 h
    refine lv_iload_n hx hb dX7_readSwitch_44 rfl (lv_at hl 1 rfl) ?_
    refine lv_bipush (v := 98) hx hb dX7_readSwitch_45 (by decide) ?_
    refine lv_icmp_ne (tgt := 54) hx hb dX7_readSwitch_47 (by decide) (fun b47 => ?_) (fun b47 => ?_)
    · have h := it_f b47 h
      refine lv_iload_n hx hb dX7_readSwitch_54 rfl (lv_at hl 1 rfl) ?_
      refine lv_bipush (v := 100) hx hb dX7_readSwitch_55 (by decide) ?_
      refine lv_icmp_ne (tgt := 64) hx hb dX7_readSwitch_57 (by decide) (fun b57 => ?_) (fun b57 => ?_)
      · have h := it_f b57 h
        refine lv_bipush (v := (-9)) hx hb dX7_readSwitch_64 (by decide) ?_
        exact w_j_X7_readSwitch_66 C  h K _ _ _ hW (lv_sub hl [2, 3, 0] rfl)
      · have h := it_t b57 h
        refine lv_iconst (v := 2) hx hb dX7_readSwitch_60 (by decide) ?_
        refine lv_goto (tgt := 66) hx hb dX7_readSwitch_61 (by decide) ?_
        exact w_j_X7_readSwitch_66 C  h K _ _ _ hW (lv_sub hl [2, 3, 0] rfl)
    · have h := it_t b47 h
      refine lv_iconst (v := 1) hx hb dX7_readSwitch_50 (by decide) ?_
      refine lv_goto (tgt := 66) hx hb dX7_readSwitch_51 (by decide) ?_
      exact w_j_X7_readSwitch_66 C  h K _ _ _ hW (lv_sub hl [2, 3, 0] rfl)
  · have h := it_t b37 h
    refine lv_iconst (v := 0) hx hb dX7_readSwitch_40 (by decide) ?_
    refine lv_goto (tgt := 66) hx hb dX7_readSwitch_41 (by decide) ?_
    exact w_j_X7_readSwitch_66 C  h K _ _ _ hW (lv_sub hl [2, 3, 0] rfl)
def f_X7_readSwitch (S : St) (a0 : Int32) : Option (Bool × St) :=
  if a0 ≤ (S 0 14) then (j_X7_readSwitch_21 S a0 ((0 : Int32))) else (ck (okx (S 0 14) 240) <| j_X7_readSwitch_21 S a0 (S 3 (ix (S 0 14))))
set_option maxHeartbeats 4000000 in
set_option maxRecDepth 100000 in
theorem w_f_X7_readSwitch {G : Geo} {p : Program} {l : Launch} {e : Env} {s : State} {m : MethodId} {args : Array Value} {below : List Frame} {meth : Method} {c : Code} {A : Nat → Prop} {H0 : Heap} {Q : State → Prop} (C : Cx G RX7 cX7_readSwitch 6 p s m args c) {S : St} {a0 : Int32} {o : Bool × St} (h : f_X7_readSwitch S a0 = some o) (K : KI 18 eM G A H0 cX7_readSwitch p l e 2 s m args below meth c Q (bi ((o).1)) ((o).2)) : ∀ (H : Heap) (locs : List Loc) (ls : Array Slot), HM G A H0 S H locs → lv_has ls 6 [(0, .ref (adr G 0)), (1, .int a0)] → W p l e (rmK 2) s m args below meth c H locs 0 0 Q (F0 m 0 ls []) := by
  obtain ⟨hx, hb, -⟩ := id C
  intro H locs ls hW hl
  unfold f_X7_readSwitch at h
  refine lv_aload_n hx hb dX7_readSwitch_0 rfl (lv_at hl 0 rfl) ?_
  refine gf_RX7_77 C hW dX7_readSwitch_1 ?_
  refine lv_iload_n hx hb dX7_readSwitch_4 rfl (lv_at hl 1 rfl) ?_
  refine lv_icmp_ge (tgt := 20) hx hb dX7_readSwitch_5 (by decide) (fun b5 => ?_) (fun b5 => ?_)
  · have h := it_t b5 h
    refine lv_iconst (v := 0) hx hb dX7_readSwitch_20 (by decide) ?_
    exact w_j_X7_readSwitch_21 C  h K _ _ _ hW (lv_sub hl [0, 1] rfl)
  · have h := it_f b5 h
    refine lv_aload_n hx hb dX7_readSwitch_8 rfl (lv_at hl 0 rfl) ?_
    refine gf_RX7_16 C hW dX7_readSwitch_9 ?_
    refine lv_aload_n hx hb dX7_readSwitch_12 rfl (lv_at hl 0 rfl) ?_
    refine gf_RX7_77 C hW dX7_readSwitch_13 ?_
    obtain ⟨g16, h⟩ := ck_some h
    refine x_iald C hW (k := 3) (n := 240) (by decide) (fun _ => rfl) g16 dX7_readSwitch_16 ?_
    refine lv_goto (tgt := 21) hx hb dX7_readSwitch_17 (by decide) ?_
    exact w_j_X7_readSwitch_21 C  h K _ _ _ hW (lv_sub hl [0, 1] rfl)
set_option maxRecDepth 100000 in
theorem c_X7_readSwitch (l : Launch) (G : Geo) {S : St} {a0 : Int32} {o : Bool × St} (h : f_X7_readSwitch S a0 = some o) : MI 18 eM G l yX7_readSwitch cX7_readSwitch 6 (some .boolean) 2 [.ref (adr G 0), .int a0] S (bi o.1) o.2 :=
  mZ_of (by decide +kernel) (Nat.le_of_ble_eq_true rfl) (fun p e s m below meth c A H0 Q C K => w_f_X7_readSwitch C h K)
def i_X7_readHall_30 (S : St) (x1 : Int32) (x2 : Int32) : Option ((St × Int32) ⊕ (St × Int32)) :=
  if x2 = ((-9 : Int32)) then (some (.inr (S, x2))) else (ck (okx (S 0 15) 5) <| if ((5 : Int32)) ≤ ((up (up S 10 (ix (S 0 15)) x2) 0 15 (((up S 10 (ix (S 0 15)) x2) 0 15) + ((1 : Int32)))) 0 15) then (some (.inl (up (up S 10 (ix (S 0 15)) x2) 0 15 (((up S 10 (ix (S 0 15)) x2) 0 15) + ((1 : Int32))), (-9 : Int32)))) else (bd (f_X7_digit (up (up S 10 (ix (S 0 15)) x2) 0 15 (((up S 10 (ix (S 0 15)) x2) 0 15) + ((1 : Int32)))) x1 ((2 : Int32)) ((5 : Int32))) fun r68 => some (.inl (r68.2, r68.1))))
set_option maxHeartbeats 4000000 in
set_option maxRecDepth 100000 in
theorem w_i_X7_readHall_30 {G : Geo} {p : Program} {l : Launch} {e : Env} {s : State} {m : MethodId} {args : Array Value} {below : List Frame} {meth : Method} {c : Code} {A : Nat → Prop} {H0 : Heap} {Q : State → Prop} (C : Cx G RX7 cX7_readHall 3 p s m args c) {S : St} {x1 : Int32} {x2 : Int32} {o : (St × Int32) ⊕ (St × Int32)} (h : i_X7_readHall_30 S x1 x2 = some o) (Kn : ∀ q, o = .inl q → ∀ (H : Heap) (locs : List Loc) (ls : Array Slot), HM G A H0 q.1 H locs → lv_has ls 3 [(0, .ref (adr G 0)), (1, .int x1), (2, .int (q.2))] → W p l e (rmK 3) s m args below meth c H locs 0 0 Q (F0 m 30 ls [])) (Kt : ∀ q, o = .inr q → ∀ (H : Heap) (locs : List Loc) (ls : Array Slot), HM G A H0 q.1 H locs → lv_has ls 3 [(0, .ref (adr G 0)), (1, .int x1)] → W p l e (rmK 3) s m args below meth c H locs 0 0 Q (F0 m 80 ls [])) : ∀ (H : Heap) (locs : List Loc) (ls : Array Slot), HM G A H0 S H locs → lv_has ls 3 [(0, .ref (adr G 0)), (1, .int x1), (2, .int x2)] → W p l e (rmK 3) s m args below meth c H locs 0 0 Q (F0 m 30 ls []) := by
  obtain ⟨hx, hb, -⟩ := id C
  intro H locs ls hW hl
  unfold i_X7_readHall_30 at h
  refine lv_iload_n hx hb dX7_readHall_30 rfl (lv_at hl 2 rfl) ?_
  refine lv_bipush (v := (-9)) hx hb dX7_readHall_31 (by decide) ?_
  refine lv_icmp_eq (tgt := 80) hx hb dX7_readHall_33 (by decide) (fun b33 => ?_) (fun b33 => ?_)
  · have h := it_t b33 h
    obtain rfl := Option.some.inj h
    exact Kt _ rfl _ _ _ hW (lv_sub hl [0, 1] rfl)
  · have h := it_f b33 h
    refine lv_aload_n hx hb dX7_readHall_36 rfl (lv_at hl 0 rfl) ?_
    refine gf_RX7_37 C hW dX7_readHall_37 ?_
    refine lv_aload_n hx hb dX7_readHall_40 rfl (lv_at hl 0 rfl) ?_
    refine gf_RX7_101 C hW dX7_readHall_41 ?_
    refine lv_iload_n hx hb dX7_readHall_44 rfl (lv_at hl 2 rfl) ?_
    obtain ⟨g45, h⟩ := ck_some h
    refine x_iast C hW (k := 10) (n := 5) (by decide) (fun _ => rfl) g45 dX7_readHall_45 (fun H locs hW => ?_)
    refine lv_aload_n hx hb dX7_readHall_46 rfl (lv_at hl 0 rfl) ?_
    refine lv_dup hx hb dX7_readHall_47 rfl ?_
    refine gf_RX7_101 C hW dX7_readHall_48 ?_
    refine lv_iconst (v := 1) hx hb dX7_readHall_51 (by decide) ?_
    refine lv_iadd hx hb dX7_readHall_52 ?_
    refine pf_RX7_101 C hW dX7_readHall_53 (fun H locs hW => ?_)
    refine lv_aload_n hx hb dX7_readHall_56 rfl (lv_at hl 0 rfl) ?_
    refine gf_RX7_101 C hW dX7_readHall_57 ?_
    refine lv_iconst (v := 5) hx hb dX7_readHall_60 (by decide) ?_
    refine lv_icmp_ge (tgt := 74) hx hb dX7_readHall_61 (by decide) (fun b61 => ?_) (fun b61 => ?_)
    · have h := it_t b61 h
      refine lv_bipush (v := (-9)) hx hb dX7_readHall_74 (by decide) ?_
      refine lv_istore_n (lv' := [(2, .int ((-9 : Int32))), (0, .ref (adr G 0)), (1, .int x1)]) hx hb dX7_readHall_76 rfl hl (by decide) rfl (fun ls hl => ?_)
      refine lv_goto (tgt := 30) hx hb dX7_readHall_77 (by decide) ?_
      obtain rfl := Option.some.inj h
      exact Kn _ rfl _ _ _ hW (lv_sub hl [1, 2, 0] rfl)
    · have h := it_f b61 h
      refine lv_aload_n hx hb dX7_readHall_64 rfl (lv_at hl 0 rfl) ?_
      refine lv_iload_n hx hb dX7_readHall_65 rfl (lv_at hl 1 rfl) ?_
      refine lv_iconst (v := 2) hx hb dX7_readHall_66 (by decide) ?_
      refine lv_iconst (v := 5) hx hb dX7_readHall_67 (by decide) ?_
      obtain ⟨r68, r68h, h⟩ := bd_some h
      refine x_backI hW (x_runV (As := [.int x1, .int ((2 : Int32)), .int ((5 : Int32))]) (rest := []) C hW (c_X7_digit l G r68h H.size) cv_RX7_117 rv_X7 hl.1 rfl rfl ⟨by decide, by decide⟩ (Nat.le_of_ble_eq_true rfl) ⟨Nat.zero_le _, Nat.zero_le _⟩ dX7_readHall_68) (fun H locs hW => ?_)
      refine lv_goto (tgt := 76) hx hb dX7_readHall_71 (by decide) ?_
      refine lv_istore_n (lv' := [(2, .int (r68.1)), (0, .ref (adr G 0)), (1, .int x1)]) hx hb dX7_readHall_76 rfl hl (by decide) rfl (fun ls hl => ?_)
      refine lv_goto (tgt := 30) hx hb dX7_readHall_77 (by decide) ?_
      obtain rfl := Option.some.inj h
      exact Kn _ rfl _ _ _ hW (lv_sub hl [1, 2, 0] rfl)
set_option maxHeartbeats 4000000 in
set_option maxRecDepth 100000 in
theorem l_i_X7_readHall_30 {G : Geo} {p : Program} {l : Launch} {e : Env} {s : State} {m : MethodId} {args : Array Value} {below : List Frame} {meth : Method} {c : Code} {A : Nat → Prop} {H0 : Heap} {Q : State → Prop} (C : Cx G RX7 cX7_readHall 3 p s m args c) {x1 : Int32} {n : Nat} {q0 : St × Int32} {u : St × Int32} (hq : iter (fun q : St × Int32 => i_X7_readHall_30 q.1 x1 q.2) n q0 = some u) (Kt : (fun q : St × Int32 => ∀ (H : Heap) (locs : List Loc) (ls : Array Slot), HM G A H0 q.1 H locs → lv_has ls 3 [(0, .ref (adr G 0)), (1, .int x1)] → W p l e (rmK 3) s m args below meth c H locs 0 0 Q (F0 m 80 ls [])) u) : (fun q : St × Int32 => ∀ (H : Heap) (locs : List Loc) (ls : Array Slot), HM G A H0 q.1 H locs → lv_has ls 3 [(0, .ref (adr G 0)), (1, .int x1), (2, .int (q.2))] → W p l e (rmK 3) s m args below meth c H locs 0 0 Q (F0 m 30 ls [])) q0 :=
  iter_W (P := fun q : St × Int32 => ∀ (H : Heap) (locs : List Loc) (ls : Array Slot), HM G A H0 q.1 H locs → lv_has ls 3 [(0, .ref (adr G 0)), (1, .int x1), (2, .int (q.2))] → W p l e (rmK 3) s m args below meth c H locs 0 0 Q (F0 m 30 ls [])) (K := fun q : St × Int32 => ∀ (H : Heap) (locs : List Loc) (ls : Array Slot), HM G A H0 q.1 H locs → lv_has ls 3 [(0, .ref (adr G 0)), (1, .int x1)] → W p l e (rmK 3) s m args below meth c H locs 0 0 Q (F0 m 80 ls [])) (fun q o hit Kn Kt => w_i_X7_readHall_30 C  hit Kn Kt) n q0 u hq Kt
def j_X7_readHall_112 (S : St) (x1 : Int32) : Option ((St) ⊕ ((St) ⊕ (Bool × St))) :=
  bd (f_X7_isSign S x1 ((59 : Int32))) fun r116 => if r116.1 = false then (some (.inr (.inr (false, r116.2)))) else (bd (f_X7_readSwitch r116.2 x1) fun r124 => if r124.1 = true then (some (.inl r124.2)) else (some (.inr (.inr (false, r124.2)))))
set_option maxHeartbeats 4000000 in
set_option maxRecDepth 100000 in
theorem w_j_X7_readHall_112 {G : Geo} {p : Program} {l : Launch} {e : Env} {s : State} {m : MethodId} {args : Array Value} {below : List Frame} {meth : Method} {c : Code} {A : Nat → Prop} {H0 : Heap} {Q : State → Prop} (C : Cx G RX7 cX7_readHall 3 p s m args c) {S : St} {x1 : Int32} {o : (St) ⊕ ((St) ⊕ (Bool × St))} (h : j_X7_readHall_112 S x1 = some o) (Kn : ∀ q, o = .inl q → ∀ (H : Heap) (locs : List Loc) (ls : Array Slot), HM G A H0 q H locs → lv_has ls 3 [(0, .ref (adr G 0)), (1, .int x1)] → W p l e (rmK 3) s m args below meth c H locs 0 0 Q (F0 m 89 ls [])) (Kt : ∀ u, o = .inr u → (∀ q, u = .inl q → ∀ (H : Heap) (locs : List Loc) (ls : Array Slot), HM G A H0 q H locs → lv_has ls 3 [(0, .ref (adr G 0)), (1, .int x1)] → W p l e (rmK 3) s m args below meth c H locs 0 0 Q (F0 m 132 ls [])) ∧ (∀ r, u = .inr r → KI 18 eM G A H0 cX7_readHall p l e 3 s m args below meth c Q (bi ((r).1)) ((r).2))) : ∀ (H : Heap) (locs : List Loc) (ls : Array Slot), HM G A H0 S H locs → lv_has ls 3 [(0, .ref (adr G 0)), (1, .int x1)] → W p l e (rmK 3) s m args below meth c H locs 0 0 Q (F0 m 112 ls []) := by
  obtain ⟨hx, hb, -⟩ := id C
  intro H locs ls hW hl
  unfold j_X7_readHall_112 at h
  refine lv_aload_n hx hb dX7_readHall_112 rfl (lv_at hl 0 rfl) ?_
  refine lv_iload_n hx hb dX7_readHall_113 rfl (lv_at hl 1 rfl) ?_
  refine lv_bipush (v := 59) hx hb dX7_readHall_114 (by decide) ?_
  obtain ⟨r116, r116h, h⟩ := bd_some h
  refine x_backI hW (x_runV (As := [.int x1, .int ((59 : Int32))]) (rest := []) C hW (c_X7_isSign l G r116h H.size) cv_RX7_113 rv_X7 hl.1 rfl rfl ⟨by decide, by decide⟩ (Nat.le_of_ble_eq_true rfl) ⟨Nat.zero_le _, Nat.zero_le _⟩ dX7_readHall_116) (fun H locs hW => ?_)
  refine z_if_eq (tgt := 130) hx hb dX7_readHall_119 (by decide) (fun b119 => ?_) (fun b119 => ?_)
  · have h := it_t b119 h
    refine lv_iconst (v := 0) hx hb dX7_readHall_130 (by decide) ?_
    obtain rfl := Option.some.inj h
    exact (Kt _ rfl).2 _ rfl _ _ _ _ dX7_readHall_131 hW
  · have h := it_f b119 h
    refine lv_aload_n hx hb dX7_readHall_122 rfl (lv_at hl 0 rfl) ?_
    refine lv_iload_n hx hb dX7_readHall_123 rfl (lv_at hl 1 rfl) ?_
    obtain ⟨r124, r124h, h⟩ := bd_some h
    refine x_backI hW (x_runV (As := [.int x1]) (rest := []) C hW (c_X7_readSwitch l G r124h H.size) cv_RX7_121 rv_X7 hl.1 rfl rfl ⟨by decide, by decide⟩ (Nat.le_of_ble_eq_true rfl) ⟨Nat.zero_le _, Nat.zero_le _⟩ dX7_readHall_124) (fun H locs hW => ?_)
    refine z_if_ne (tgt := 89) hx hb dX7_readHall_127 (by decide) (fun b127 => ?_) (fun b127 => ?_)
    · have h := it_t b127 h
      obtain rfl := Option.some.inj h
      exact Kn _ rfl _ _ _ hW (lv_sub hl [0, 1] rfl)
    · have h := it_f b127 h
      refine lv_iconst (v := 0) hx hb dX7_readHall_130 (by decide) ?_
      obtain rfl := Option.some.inj h
      exact (Kt _ rfl).2 _ rfl _ _ _ _ dX7_readHall_131 hW
def i_X7_readHall_89 (S : St) (x1 : Int32) : Option ((St) ⊕ ((St) ⊕ (Bool × St))) :=
  if (S 0 16) = 0 then (j_X7_readHall_112 S x1) else (if ((5 : Int32)) ≤ (S 0 16) then (some (.inr (.inl S))) else (if x1 ≤ (S 0 14) then (some (.inr (.inl S))) else (j_X7_readHall_112 S x1)))
set_option maxHeartbeats 4000000 in
set_option maxRecDepth 100000 in
theorem w_i_X7_readHall_89 {G : Geo} {p : Program} {l : Launch} {e : Env} {s : State} {m : MethodId} {args : Array Value} {below : List Frame} {meth : Method} {c : Code} {A : Nat → Prop} {H0 : Heap} {Q : State → Prop} (C : Cx G RX7 cX7_readHall 3 p s m args c) {S : St} {x1 : Int32} {o : (St) ⊕ ((St) ⊕ (Bool × St))} (h : i_X7_readHall_89 S x1 = some o) (Kn : ∀ q, o = .inl q → ∀ (H : Heap) (locs : List Loc) (ls : Array Slot), HM G A H0 q H locs → lv_has ls 3 [(0, .ref (adr G 0)), (1, .int x1)] → W p l e (rmK 3) s m args below meth c H locs 0 0 Q (F0 m 89 ls [])) (Kt : ∀ u, o = .inr u → (∀ q, u = .inl q → ∀ (H : Heap) (locs : List Loc) (ls : Array Slot), HM G A H0 q H locs → lv_has ls 3 [(0, .ref (adr G 0)), (1, .int x1)] → W p l e (rmK 3) s m args below meth c H locs 0 0 Q (F0 m 132 ls [])) ∧ (∀ r, u = .inr r → KI 18 eM G A H0 cX7_readHall p l e 3 s m args below meth c Q (bi ((r).1)) ((r).2))) : ∀ (H : Heap) (locs : List Loc) (ls : Array Slot), HM G A H0 S H locs → lv_has ls 3 [(0, .ref (adr G 0)), (1, .int x1)] → W p l e (rmK 3) s m args below meth c H locs 0 0 Q (F0 m 89 ls []) := by
  obtain ⟨hx, hb, -⟩ := id C
  intro H locs ls hW hl
  unfold i_X7_readHall_89 at h
  refine lv_aload_n hx hb dX7_readHall_89 rfl (lv_at hl 0 rfl) ?_
  refine gf_RX7_104 C hW dX7_readHall_90 ?_
  refine lv_if_eq (tgt := 112) hx hb dX7_readHall_93 (by decide) (fun b93 => ?_) (fun b93 => ?_)
  · have h := it_t b93 h
    exact w_j_X7_readHall_112 C  h Kn Kt _ _ _ hW (lv_sub hl [0, 1] rfl)
  · have h := it_f b93 h
    refine lv_aload_n hx hb dX7_readHall_96 rfl (lv_at hl 0 rfl) ?_
    refine gf_RX7_104 C hW dX7_readHall_97 ?_
    refine lv_iconst (v := 5) hx hb dX7_readHall_100 (by decide) ?_
    refine lv_icmp_ge (tgt := 132) hx hb dX7_readHall_101 (by decide) (fun b101 => ?_) (fun b101 => ?_)
    · have h := it_t b101 h
      obtain rfl := Option.some.inj h
      exact (Kt _ rfl).1 _ rfl _ _ _ hW (lv_sub hl [0, 1] rfl)
    · have h := it_f b101 h
      refine lv_aload_n hx hb dX7_readHall_104 rfl (lv_at hl 0 rfl) ?_
      refine gf_RX7_77 C hW dX7_readHall_105 ?_
      refine lv_iload_n hx hb dX7_readHall_108 rfl (lv_at hl 1 rfl) ?_
      refine lv_icmp_ge (tgt := 132) hx hb dX7_readHall_109 (by decide) (fun b109 => ?_) (fun b109 => ?_)
      · have h := it_t b109 h
        obtain rfl := Option.some.inj h
        exact (Kt _ rfl).1 _ rfl _ _ _ hW (lv_sub hl [0, 1] rfl)
      · have h := it_f b109 h
        exact w_j_X7_readHall_112 C  h Kn Kt _ _ _ hW (lv_sub hl [0, 1] rfl)
set_option maxHeartbeats 4000000 in
set_option maxRecDepth 100000 in
theorem l_i_X7_readHall_89 {G : Geo} {p : Program} {l : Launch} {e : Env} {s : State} {m : MethodId} {args : Array Value} {below : List Frame} {meth : Method} {c : Code} {A : Nat → Prop} {H0 : Heap} {Q : State → Prop} (C : Cx G RX7 cX7_readHall 3 p s m args c) {x1 : Int32} {n : Nat} {q0 : St} {u : (St) ⊕ (Bool × St)} (hq : iter (fun q : St => i_X7_readHall_89 q x1) n q0 = some u) (Kt : (∀ q, u = .inl q → ∀ (H : Heap) (locs : List Loc) (ls : Array Slot), HM G A H0 q H locs → lv_has ls 3 [(0, .ref (adr G 0)), (1, .int x1)] → W p l e (rmK 3) s m args below meth c H locs 0 0 Q (F0 m 132 ls [])) ∧ (∀ r, u = .inr r → KI 18 eM G A H0 cX7_readHall p l e 3 s m args below meth c Q (bi ((r).1)) ((r).2))) : (fun q : St => ∀ (H : Heap) (locs : List Loc) (ls : Array Slot), HM G A H0 q H locs → lv_has ls 3 [(0, .ref (adr G 0)), (1, .int x1)] → W p l e (rmK 3) s m args below meth c H locs 0 0 Q (F0 m 89 ls [])) q0 :=
  iter_W (P := fun q : St => ∀ (H : Heap) (locs : List Loc) (ls : Array Slot), HM G A H0 q H locs → lv_has ls 3 [(0, .ref (adr G 0)), (1, .int x1)] → W p l e (rmK 3) s m args below meth c H locs 0 0 Q (F0 m 89 ls [])) (K := fun u => (∀ q, u = .inl q → ∀ (H : Heap) (locs : List Loc) (ls : Array Slot), HM G A H0 q H locs → lv_has ls 3 [(0, .ref (adr G 0)), (1, .int x1)] → W p l e (rmK 3) s m args below meth c H locs 0 0 Q (F0 m 132 ls [])) ∧ (∀ r, u = .inr r → KI 18 eM G A H0 cX7_readHall p l e 3 s m args below meth c Q (bi ((r).1)) ((r).2))) (fun q o hit Kn Kt => w_i_X7_readHall_89 C  hit Kn Kt) n q0 u hq Kt
def f_X7_readHall (S : St) (a0 : Int32) : Option (Bool × St) :=
  bd (f_X7_isSign (up (up S 0 15 ((0 : Int32))) 0 16 ((0 : Int32))) a0 ((108 : Int32))) fun r14 => if r14.1 = true then (bd (f_X7_digit r14.2 a0 ((2 : Int32)) ((5 : Int32))) fun r26 => bd (iter (fun q => i_X7_readHall_30 q.1 a0 q.2) BIG (r26.2, r26.1)) fun q30 => if (q30.1 0 15) = 0 then (some (false, q30.1)) else (bd (iter (fun q => i_X7_readHall_89 q a0) BIG q30.1) fun u89 => sm u89 (fun q89 => if (q89 0 14) = a0 then (some (true, q89)) else (some (false, q89))) fun w89 => some w89)) else (some (false, r14.2))
set_option maxHeartbeats 4000000 in
set_option maxRecDepth 100000 in
theorem w_f_X7_readHall {G : Geo} {p : Program} {l : Launch} {e : Env} {s : State} {m : MethodId} {args : Array Value} {below : List Frame} {meth : Method} {c : Code} {A : Nat → Prop} {H0 : Heap} {Q : State → Prop} (C : Cx G RX7 cX7_readHall 3 p s m args c) {S : St} {a0 : Int32} {o : Bool × St} (h : f_X7_readHall S a0 = some o) (K : KI 18 eM G A H0 cX7_readHall p l e 3 s m args below meth c Q (bi ((o).1)) ((o).2)) : ∀ (H : Heap) (locs : List Loc) (ls : Array Slot), HM G A H0 S H locs → lv_has ls 3 [(0, .ref (adr G 0)), (1, .int a0)] → W p l e (rmK 3) s m args below meth c H locs 0 0 Q (F0 m 0 ls []) := by
  obtain ⟨hx, hb, -⟩ := id C
  intro H locs ls hW hl
  unfold f_X7_readHall at h
  refine lv_aload_n hx hb dX7_readHall_0 rfl (lv_at hl 0 rfl) ?_
  refine lv_iconst (v := 0) hx hb dX7_readHall_1 (by decide) ?_
  refine pf_RX7_101 C hW dX7_readHall_2 (fun H locs hW => ?_)
  refine lv_aload_n hx hb dX7_readHall_5 rfl (lv_at hl 0 rfl) ?_
  refine lv_iconst (v := 0) hx hb dX7_readHall_6 (by decide) ?_
  refine pf_RX7_104 C hW dX7_readHall_7 (fun H locs hW => ?_)
  refine lv_aload_n hx hb dX7_readHall_10 rfl (lv_at hl 0 rfl) ?_
  refine lv_iload_n hx hb dX7_readHall_11 rfl (lv_at hl 1 rfl) ?_
  refine lv_bipush (v := 108) hx hb dX7_readHall_12 (by decide) ?_
  obtain ⟨r14, r14h, h⟩ := bd_some h
  refine x_backI hW (x_runV (As := [.int a0, .int ((108 : Int32))]) (rest := []) C hW (c_X7_isSign l G r14h H.size) cv_RX7_113 rv_X7 hl.1 rfl rfl ⟨by decide, by decide⟩ (Nat.le_of_ble_eq_true rfl) ⟨Nat.zero_le _, Nat.zero_le _⟩ dX7_readHall_14) (fun H locs hW => ?_)
  refine z_if_ne (tgt := 22) hx hb dX7_readHall_17 (by decide) (fun b17 => ?_) (fun b17 => ?_)
  · have h := it_t b17 h
    refine lv_aload_n hx hb dX7_readHall_22 rfl (lv_at hl 0 rfl) ?_
    refine lv_iload_n hx hb dX7_readHall_23 rfl (lv_at hl 1 rfl) ?_
    refine lv_iconst (v := 2) hx hb dX7_readHall_24 (by decide) ?_
    refine lv_iconst (v := 5) hx hb dX7_readHall_25 (by decide) ?_
    obtain ⟨r26, r26h, h⟩ := bd_some h
    refine x_backI hW (x_runV (As := [.int a0, .int ((2 : Int32)), .int ((5 : Int32))]) (rest := []) C hW (c_X7_digit l G r26h H.size) cv_RX7_117 rv_X7 hl.1 rfl rfl ⟨by decide, by decide⟩ (Nat.le_of_ble_eq_true rfl) ⟨Nat.zero_le _, Nat.zero_le _⟩ dX7_readHall_26) (fun H locs hW => ?_)
    refine lv_istore_n (lv' := [(2, .int (r26.1)), (0, .ref (adr G 0)), (1, .int a0)]) hx hb dX7_readHall_29 rfl hl (by decide) rfl (fun ls hl => ?_)
    obtain ⟨q30, q30h, h⟩ := bd_some h
    refine l_i_X7_readHall_30 C  q30h ?_ _ _ _ hW (lv_sub hl [1, 2, 0] rfl)
    intro H locs ls hW hl
    refine lv_aload_n hx hb dX7_readHall_80 rfl (lv_at hl 0 rfl) ?_
    refine gf_RX7_101 C hW dX7_readHall_81 ?_
    refine lv_if_ne (tgt := 89) hx hb dX7_readHall_84 (by decide) (fun b84 => ?_) (fun b84 => ?_)
    · have h := it_f b84 h
      obtain ⟨u89, u89h, h⟩ := bd_some h
      refine l_i_X7_readHall_89 C  u89h ⟨?_, ?_⟩ _ _ _ hW (lv_sub hl [0, 1] rfl)
      · intro q89 hu; subst hu; have h := sm_l h
        intro H locs ls hW hl
        refine lv_aload_n hx hb dX7_readHall_132 rfl (lv_at hl 0 rfl) ?_
        refine gf_RX7_77 C hW dX7_readHall_133 ?_
        refine lv_iload_n hx hb dX7_readHall_136 rfl (lv_at hl 1 rfl) ?_
        refine lv_icmp_ne (tgt := 144) hx hb dX7_readHall_137 (by decide) (fun b137 => ?_) (fun b137 => ?_)
        · have h := it_f b137 h
          refine lv_iconst (v := 0) hx hb dX7_readHall_144 (by decide) ?_
          obtain rfl := Option.some.inj h
          exact K _ _ _ _ dX7_readHall_145 hW
        · have h := it_t b137 h
          refine lv_iconst (v := 1) hx hb dX7_readHall_140 (by decide) ?_
          refine lv_goto (tgt := 145) hx hb dX7_readHall_141 (by decide) ?_
          obtain rfl := Option.some.inj h
          exact K _ _ _ _ dX7_readHall_145 hW
      · intro w89 hu; subst hu; have h := sm_r h
        obtain rfl := Option.some.inj h
        exact K
    · have h := it_t b84 h
      refine lv_iconst (v := 0) hx hb dX7_readHall_87 (by decide) ?_
      obtain rfl := Option.some.inj h
      exact K _ _ _ _ dX7_readHall_88 hW
  · have h := it_f b17 h
    refine lv_iconst (v := 0) hx hb dX7_readHall_20 (by decide) ?_
    obtain rfl := Option.some.inj h
    exact K _ _ _ _ dX7_readHall_21 hW
set_option maxRecDepth 100000 in
theorem c_X7_readHall (l : Launch) (G : Geo) {S : St} {a0 : Int32} {o : Bool × St} (h : f_X7_readHall S a0 = some o) : MI 18 eM G l yX7_readHall cX7_readHall 3 (some .boolean) 3 [.ref (adr G 0), .int a0] S (bi o.1) o.2 :=
  mZ_of (by decide +kernel) (Nat.le_of_ble_eq_true rfl) (fun p e s m below meth c A H0 Q C K => w_f_X7_readHall C h K)
def i_X7_takeHall_18 (S : St) (x1 : Int32) : Option ((St × Int32) ⊕ (St × Int32)) :=
  if (S 0 5) ≤ x1 then (some (.inr (S, x1))) else (ck (okx x1 5) <| ck (okx x1 5) <| ck (okx x1 5) <| some (.inl (up (up S 4 (ix x1) (S 10 (ix x1))) 5 (ix x1) ((0 : Int32)), x1 + (1 : Int32))))
set_option maxHeartbeats 4000000 in
set_option maxRecDepth 100000 in
theorem w_i_X7_takeHall_18 {G : Geo} {p : Program} {l : Launch} {e : Env} {s : State} {m : MethodId} {args : Array Value} {below : List Frame} {meth : Method} {c : Code} {A : Nat → Prop} {H0 : Heap} {Q : State → Prop} (C : Cx G RX7 cX7_takeHall 2 p s m args c) {S : St} {x1 : Int32} {o : (St × Int32) ⊕ (St × Int32)} (h : i_X7_takeHall_18 S x1 = some o) (Kn : ∀ q, o = .inl q → ∀ (H : Heap) (locs : List Loc) (ls : Array Slot), HM G A H0 q.1 H locs → lv_has ls 2 [(0, .ref (adr G 0)), (1, .int (q.2))] → W p l e (rmK 0) s m args below meth c H locs 0 0 Q (F0 m 18 ls [])) (Kt : ∀ q, o = .inr q → ∀ (H : Heap) (locs : List Loc) (ls : Array Slot), HM G A H0 q.1 H locs → lv_has ls 2 [(0, .ref (adr G 0))] → W p l e (rmK 0) s m args below meth c H locs 0 0 Q (F0 m 51 ls [])) : ∀ (H : Heap) (locs : List Loc) (ls : Array Slot), HM G A H0 S H locs → lv_has ls 2 [(0, .ref (adr G 0)), (1, .int x1)] → W p l e (rmK 0) s m args below meth c H locs 0 0 Q (F0 m 18 ls []) := by
  obtain ⟨hx, hb, -⟩ := id C
  intro H locs ls hW hl
  unfold i_X7_takeHall_18 at h
  refine lv_iload_n hx hb dX7_takeHall_18 rfl (lv_at hl 1 rfl) ?_
  refine lv_aload_n hx hb dX7_takeHall_19 rfl (lv_at hl 0 rfl) ?_
  refine gf_RX7_71 C hW dX7_takeHall_20 ?_
  refine lv_icmp_ge (tgt := 51) hx hb dX7_takeHall_23 (by decide) (fun b23 => ?_) (fun b23 => ?_)
  · have h := it_t b23 h
    obtain rfl := Option.some.inj h
    exact Kt _ rfl _ _ _ hW (lv_sub hl [0] rfl)
  · have h := it_f b23 h
    refine lv_aload_n hx hb dX7_takeHall_26 rfl (lv_at hl 0 rfl) ?_
    refine gf_RX7_19 C hW dX7_takeHall_27 ?_
    refine lv_iload_n hx hb dX7_takeHall_30 rfl (lv_at hl 1 rfl) ?_
    refine lv_aload_n hx hb dX7_takeHall_31 rfl (lv_at hl 0 rfl) ?_
    refine gf_RX7_37 C hW dX7_takeHall_32 ?_
    refine lv_iload_n hx hb dX7_takeHall_35 rfl (lv_at hl 1 rfl) ?_
    obtain ⟨g36, h⟩ := ck_some h
    refine x_iald C hW (k := 10) (n := 5) (by decide) (fun _ => rfl) g36 dX7_takeHall_36 ?_
    obtain ⟨g37, h⟩ := ck_some h
    refine x_iast C hW (k := 4) (n := 5) (by decide) (fun _ => rfl) g37 dX7_takeHall_37 (fun H locs hW => ?_)
    refine lv_aload_n hx hb dX7_takeHall_38 rfl (lv_at hl 0 rfl) ?_
    refine gf_RX7_22 C hW dX7_takeHall_39 ?_
    refine lv_iload_n hx hb dX7_takeHall_42 rfl (lv_at hl 1 rfl) ?_
    refine lv_iconst (v := 0) hx hb dX7_takeHall_43 (by decide) ?_
    obtain ⟨g44, h⟩ := ck_some h
    refine x_iast C hW (k := 5) (n := 5) (by decide) (fun _ => rfl) g44 dX7_takeHall_44 (fun H locs hW => ?_)
    refine lv_iinc (v := (x1 + (1 : Int32))) (lv' := [(1, .int (x1 + (1 : Int32))), (0, .ref (adr G 0))]) hx hb dX7_takeHall_45 hl (k := 1) rfl rfl (by decide) rfl (fun ls hl => ?_)
    refine lv_goto (tgt := 18) hx hb dX7_takeHall_48 (by decide) ?_
    obtain rfl := Option.some.inj h
    exact Kn _ rfl _ _ _ hW (lv_sub hl [1, 0] rfl)
set_option maxHeartbeats 4000000 in
set_option maxRecDepth 100000 in
theorem l_i_X7_takeHall_18 {G : Geo} {p : Program} {l : Launch} {e : Env} {s : State} {m : MethodId} {args : Array Value} {below : List Frame} {meth : Method} {c : Code} {A : Nat → Prop} {H0 : Heap} {Q : State → Prop} (C : Cx G RX7 cX7_takeHall 2 p s m args c)  {n : Nat} {q0 : St × Int32} {u : St × Int32} (hq : iter (fun q : St × Int32 => i_X7_takeHall_18 q.1 q.2) n q0 = some u) (Kt : (fun q : St × Int32 => ∀ (H : Heap) (locs : List Loc) (ls : Array Slot), HM G A H0 q.1 H locs → lv_has ls 2 [(0, .ref (adr G 0))] → W p l e (rmK 0) s m args below meth c H locs 0 0 Q (F0 m 51 ls [])) u) : (fun q : St × Int32 => ∀ (H : Heap) (locs : List Loc) (ls : Array Slot), HM G A H0 q.1 H locs → lv_has ls 2 [(0, .ref (adr G 0)), (1, .int (q.2))] → W p l e (rmK 0) s m args below meth c H locs 0 0 Q (F0 m 18 ls [])) q0 :=
  iter_W (P := fun q : St × Int32 => ∀ (H : Heap) (locs : List Loc) (ls : Array Slot), HM G A H0 q.1 H locs → lv_has ls 2 [(0, .ref (adr G 0)), (1, .int (q.2))] → W p l e (rmK 0) s m args below meth c H locs 0 0 Q (F0 m 18 ls [])) (K := fun q : St × Int32 => ∀ (H : Heap) (locs : List Loc) (ls : Array Slot), HM G A H0 q.1 H locs → lv_has ls 2 [(0, .ref (adr G 0))] → W p l e (rmK 0) s m args below meth c H locs 0 0 Q (F0 m 51 ls [])) (fun q o hit Kn Kt => w_i_X7_takeHall_18 C  hit Kn Kt) n q0 u hq Kt
def i_X7_takeHall_53 (S : St) (x1 : Int32) : Option ((St × Int32) ⊕ (St × Int32)) :=
  if (S 0 6) ≤ x1 then (some (.inr (S, x1))) else (ck (okx (((3 : Int32)) * x1) 15) <| ck (okx x1 5) <| ck (okx ((((3 : Int32)) * x1) + ((1 : Int32))) 15) <| ck (okx x1 5) <| ck (okx ((((3 : Int32)) * x1) + ((2 : Int32))) 15) <| ck (okx x1 5) <| ck (okx x1 5) <| some (.inl (up (up (up (up S 6 (ix x1) (S 11 (ix (((3 : Int32)) * x1)))) 7 (ix x1) ((up S 6 (ix x1) (S 11 (ix (((3 : Int32)) * x1)))) 11 (ix ((((3 : Int32)) * x1) + ((1 : Int32)))))) 8 (ix x1) ((up (up S 6 (ix x1) (S 11 (ix (((3 : Int32)) * x1)))) 7 (ix x1) ((up S 6 (ix x1) (S 11 (ix (((3 : Int32)) * x1)))) 11 (ix ((((3 : Int32)) * x1) + ((1 : Int32)))))) 11 (ix ((((3 : Int32)) * x1) + ((2 : Int32)))))) 9 (ix x1) ((0 : Int32)), x1 + (1 : Int32))))
set_option maxHeartbeats 4000000 in
set_option maxRecDepth 100000 in
theorem w_i_X7_takeHall_53 {G : Geo} {p : Program} {l : Launch} {e : Env} {s : State} {m : MethodId} {args : Array Value} {below : List Frame} {meth : Method} {c : Code} {A : Nat → Prop} {H0 : Heap} {Q : State → Prop} (C : Cx G RX7 cX7_takeHall 2 p s m args c) {S : St} {x1 : Int32} {o : (St × Int32) ⊕ (St × Int32)} (h : i_X7_takeHall_53 S x1 = some o) (Kn : ∀ q, o = .inl q → ∀ (H : Heap) (locs : List Loc) (ls : Array Slot), HM G A H0 q.1 H locs → lv_has ls 2 [(0, .ref (adr G 0)), (1, .int (q.2))] → W p l e (rmK 0) s m args below meth c H locs 0 0 Q (F0 m 53 ls [])) (Kt : ∀ q, o = .inr q → ∀ (H : Heap) (locs : List Loc) (ls : Array Slot), HM G A H0 q.1 H locs → lv_has ls 2 [(0, .ref (adr G 0))] → W p l e (rmK 0) s m args below meth c H locs 0 0 Q (F0 m 120 ls [])) : ∀ (H : Heap) (locs : List Loc) (ls : Array Slot), HM G A H0 S H locs → lv_has ls 2 [(0, .ref (adr G 0)), (1, .int x1)] → W p l e (rmK 0) s m args below meth c H locs 0 0 Q (F0 m 53 ls []) := by
  obtain ⟨hx, hb, -⟩ := id C
  intro H locs ls hW hl
  unfold i_X7_takeHall_53 at h
  refine lv_iload_n hx hb dX7_takeHall_53 rfl (lv_at hl 1 rfl) ?_
  refine lv_aload_n hx hb dX7_takeHall_54 rfl (lv_at hl 0 rfl) ?_
  refine gf_RX7_74 C hW dX7_takeHall_55 ?_
  refine lv_icmp_ge (tgt := 120) hx hb dX7_takeHall_58 (by decide) (fun b58 => ?_) (fun b58 => ?_)
  · have h := it_t b58 h
    obtain rfl := Option.some.inj h
    exact Kt _ rfl _ _ _ hW (lv_sub hl [0] rfl)
  · have h := it_f b58 h
    refine lv_aload_n hx hb dX7_takeHall_61 rfl (lv_at hl 0 rfl) ?_
    refine gf_RX7_25 C hW dX7_takeHall_62 ?_
    refine lv_iload_n hx hb dX7_takeHall_65 rfl (lv_at hl 1 rfl) ?_
    refine lv_aload_n hx hb dX7_takeHall_66 rfl (lv_at hl 0 rfl) ?_
    refine gf_RX7_40 C hW dX7_takeHall_67 ?_
    refine lv_iconst (v := 3) hx hb dX7_takeHall_70 (by decide) ?_
    refine lv_iload_n hx hb dX7_takeHall_71 rfl (lv_at hl 1 rfl) ?_
    refine lv_imul hx hb dX7_takeHall_72 ?_
    obtain ⟨g73, h⟩ := ck_some h
    refine x_iald C hW (k := 11) (n := 15) (by decide) (fun _ => rfl) g73 dX7_takeHall_73 ?_
    obtain ⟨g74, h⟩ := ck_some h
    refine x_iast C hW (k := 6) (n := 5) (by decide) (fun _ => rfl) g74 dX7_takeHall_74 (fun H locs hW => ?_)
    refine lv_aload_n hx hb dX7_takeHall_75 rfl (lv_at hl 0 rfl) ?_
    refine gf_RX7_28 C hW dX7_takeHall_76 ?_
    refine lv_iload_n hx hb dX7_takeHall_79 rfl (lv_at hl 1 rfl) ?_
    refine lv_aload_n hx hb dX7_takeHall_80 rfl (lv_at hl 0 rfl) ?_
    refine gf_RX7_40 C hW dX7_takeHall_81 ?_
    refine lv_iconst (v := 3) hx hb dX7_takeHall_84 (by decide) ?_
    refine lv_iload_n hx hb dX7_takeHall_85 rfl (lv_at hl 1 rfl) ?_
    refine lv_imul hx hb dX7_takeHall_86 ?_
    refine lv_iconst (v := 1) hx hb dX7_takeHall_87 (by decide) ?_
    refine lv_iadd hx hb dX7_takeHall_88 ?_
    obtain ⟨g89, h⟩ := ck_some h
    refine x_iald C hW (k := 11) (n := 15) (by decide) (fun _ => rfl) g89 dX7_takeHall_89 ?_
    obtain ⟨g90, h⟩ := ck_some h
    refine x_iast C hW (k := 7) (n := 5) (by decide) (fun _ => rfl) g90 dX7_takeHall_90 (fun H locs hW => ?_)
    refine lv_aload_n hx hb dX7_takeHall_91 rfl (lv_at hl 0 rfl) ?_
    refine gf_RX7_31 C hW dX7_takeHall_92 ?_
    refine lv_iload_n hx hb dX7_takeHall_95 rfl (lv_at hl 1 rfl) ?_
    refine lv_aload_n hx hb dX7_takeHall_96 rfl (lv_at hl 0 rfl) ?_
    refine gf_RX7_40 C hW dX7_takeHall_97 ?_
    refine lv_iconst (v := 3) hx hb dX7_takeHall_100 (by decide) ?_
    refine lv_iload_n hx hb dX7_takeHall_101 rfl (lv_at hl 1 rfl) ?_
    refine lv_imul hx hb dX7_takeHall_102 ?_
    refine lv_iconst (v := 2) hx hb dX7_takeHall_103 (by decide) ?_
    refine lv_iadd hx hb dX7_takeHall_104 ?_
    obtain ⟨g105, h⟩ := ck_some h
    refine x_iald C hW (k := 11) (n := 15) (by decide) (fun _ => rfl) g105 dX7_takeHall_105 ?_
    obtain ⟨g106, h⟩ := ck_some h
    refine x_iast C hW (k := 8) (n := 5) (by decide) (fun _ => rfl) g106 dX7_takeHall_106 (fun H locs hW => ?_)
    refine lv_aload_n hx hb dX7_takeHall_107 rfl (lv_at hl 0 rfl) ?_
    refine gf_RX7_34 C hW dX7_takeHall_108 ?_
    refine lv_iload_n hx hb dX7_takeHall_111 rfl (lv_at hl 1 rfl) ?_
    refine lv_iconst (v := 0) hx hb dX7_takeHall_112 (by decide) ?_
    obtain ⟨g113, h⟩ := ck_some h
    refine x_iast C hW (k := 9) (n := 5) (by decide) (fun _ => rfl) g113 dX7_takeHall_113 (fun H locs hW => ?_)
    refine lv_iinc (v := (x1 + (1 : Int32))) (lv' := [(1, .int (x1 + (1 : Int32))), (0, .ref (adr G 0))]) hx hb dX7_takeHall_114 hl (k := 1) rfl rfl (by decide) rfl (fun ls hl => ?_)
    refine lv_goto (tgt := 53) hx hb dX7_takeHall_117 (by decide) ?_
    obtain rfl := Option.some.inj h
    exact Kn _ rfl _ _ _ hW (lv_sub hl [1, 0] rfl)
set_option maxHeartbeats 4000000 in
set_option maxRecDepth 100000 in
theorem l_i_X7_takeHall_53 {G : Geo} {p : Program} {l : Launch} {e : Env} {s : State} {m : MethodId} {args : Array Value} {below : List Frame} {meth : Method} {c : Code} {A : Nat → Prop} {H0 : Heap} {Q : State → Prop} (C : Cx G RX7 cX7_takeHall 2 p s m args c)  {n : Nat} {q0 : St × Int32} {u : St × Int32} (hq : iter (fun q : St × Int32 => i_X7_takeHall_53 q.1 q.2) n q0 = some u) (Kt : (fun q : St × Int32 => ∀ (H : Heap) (locs : List Loc) (ls : Array Slot), HM G A H0 q.1 H locs → lv_has ls 2 [(0, .ref (adr G 0))] → W p l e (rmK 0) s m args below meth c H locs 0 0 Q (F0 m 120 ls [])) u) : (fun q : St × Int32 => ∀ (H : Heap) (locs : List Loc) (ls : Array Slot), HM G A H0 q.1 H locs → lv_has ls 2 [(0, .ref (adr G 0)), (1, .int (q.2))] → W p l e (rmK 0) s m args below meth c H locs 0 0 Q (F0 m 53 ls [])) q0 :=
  iter_W (P := fun q : St × Int32 => ∀ (H : Heap) (locs : List Loc) (ls : Array Slot), HM G A H0 q.1 H locs → lv_has ls 2 [(0, .ref (adr G 0)), (1, .int (q.2))] → W p l e (rmK 0) s m args below meth c H locs 0 0 Q (F0 m 53 ls [])) (K := fun q : St × Int32 => ∀ (H : Heap) (locs : List Loc) (ls : Array Slot), HM G A H0 q.1 H locs → lv_has ls 2 [(0, .ref (adr G 0))] → W p l e (rmK 0) s m args below meth c H locs 0 0 Q (F0 m 120 ls [])) (fun q o hit Kn Kt => w_i_X7_takeHall_53 C  hit Kn Kt) n q0 u hq Kt
def f_X7_takeHall (S : St) : Option (St) :=
  bd (iter (fun q => i_X7_takeHall_18 q.1 q.2) BIG (up (up S 0 5 (S 0 15)) 0 6 ((up S 0 5 (S 0 15)) 0 16), (0 : Int32))) fun q18 => bd (iter (fun q => i_X7_takeHall_53 q.1 q.2) BIG (q18.1, (0 : Int32))) fun q53 => some (up (up q53.1 0 7 ((0 : Int32))) 0 24 ((0 : Int32)))
set_option maxHeartbeats 4000000 in
set_option maxRecDepth 100000 in
theorem w_f_X7_takeHall {G : Geo} {p : Program} {l : Launch} {e : Env} {s : State} {m : MethodId} {args : Array Value} {below : List Frame} {meth : Method} {c : Code} {A : Nat → Prop} {H0 : Heap} {Q : State → Prop} (C : Cx G RX7 cX7_takeHall 2 p s m args c) {S : St}  {o : St} (h : f_X7_takeHall S = some o) (K : KV 18 eM G A H0 cX7_takeHall p l e 0 s m args below meth c Q o) : ∀ (H : Heap) (locs : List Loc) (ls : Array Slot), HM G A H0 S H locs → lv_has ls 2 [(0, .ref (adr G 0))] → W p l e (rmK 0) s m args below meth c H locs 0 0 Q (F0 m 0 ls []) := by
  obtain ⟨hx, hb, -⟩ := id C
  intro H locs ls hW hl
  unfold f_X7_takeHall at h
  refine lv_aload_n hx hb dX7_takeHall_0 rfl (lv_at hl 0 rfl) ?_
  refine lv_aload_n hx hb dX7_takeHall_1 rfl (lv_at hl 0 rfl) ?_
  refine gf_RX7_101 C hW dX7_takeHall_2 ?_
  refine pf_RX7_71 C hW dX7_takeHall_5 (fun H locs hW => ?_)
  refine lv_aload_n hx hb dX7_takeHall_8 rfl (lv_at hl 0 rfl) ?_
  refine lv_aload_n hx hb dX7_takeHall_9 rfl (lv_at hl 0 rfl) ?_
  refine gf_RX7_104 C hW dX7_takeHall_10 ?_
  refine pf_RX7_74 C hW dX7_takeHall_13 (fun H locs hW => ?_)
  refine lv_iconst (v := 0) hx hb dX7_takeHall_16 (by decide) ?_
  refine lv_istore_n (lv' := [(1, .int ((0 : Int32))), (0, .ref (adr G 0))]) hx hb dX7_takeHall_17 rfl hl (by decide) rfl (fun ls hl => ?_)
  obtain ⟨q18, q18h, h⟩ := bd_some h
  refine l_i_X7_takeHall_18 C  q18h ?_ _ _ _ hW (lv_sub hl [1, 0] rfl)
  intro H locs ls hW hl
  refine lv_iconst (v := 0) hx hb dX7_takeHall_51 (by decide) ?_
  refine lv_istore_n (lv' := [(1, .int ((0 : Int32))), (0, .ref (adr G 0))]) hx hb dX7_takeHall_52 rfl hl (by decide) rfl (fun ls hl => ?_)
  obtain ⟨q53, q53h, h⟩ := bd_some h
  refine l_i_X7_takeHall_53 C  q53h ?_ _ _ _ hW (lv_sub hl [1, 0] rfl)
  intro H locs ls hW hl
  refine lv_aload_n hx hb dX7_takeHall_120 rfl (lv_at hl 0 rfl) ?_
  refine lv_iconst (v := 0) hx hb dX7_takeHall_121 (by decide) ?_
  refine pf_RX7_107 C hW dX7_takeHall_122 (fun H locs hW => ?_)
  refine lv_aload_n hx hb dX7_takeHall_125 rfl (lv_at hl 0 rfl) ?_
  refine lv_iconst (v := 0) hx hb dX7_takeHall_126 (by decide) ?_
  refine pf_RX7_110 C hW dX7_takeHall_127 (fun H locs hW => ?_)
  obtain rfl := Option.some.inj h
  exact K _ _ _ _ dX7_takeHall_130 hW
set_option maxRecDepth 100000 in
theorem c_X7_takeHall (l : Launch) (G : Geo) {S : St}  {o : St} (h : f_X7_takeHall S = some o) : MV 18 eM G l yX7_takeHall cX7_takeHall 2 none 0 [.ref (adr G 0)] S o :=
  mV_of (by decide +kernel) (Nat.le_of_ble_eq_true rfl) (fun p e s m below meth c A H0 Q C K => w_f_X7_takeHall C h K)
def f_X7_hall (S : St) (a0 : Int32) (a1 : Int32) (a2 : Int32) (a3 : Int32) : Option (Int32 × St) :=
  bd (f_X7_isSheet a0) fun r6 => if r6 = true then (bd (f_X7_isSort a1) fun r15 => if r15 = true then (bd (f_X7_against (up S 0 0 ((0 : Int32))) a0 a1 a2 a3) fun r30 => if r30 = 0 then (bd (f_X7_readHall (up (up S 0 0 ((0 : Int32))) 0 14 ((((60 : Int32)) * a0) + a2)) (((((60 : Int32)) * a0) + a2) + a3)) fun r67 => if r67.1 = true then (bd (f_X7_takeHall r67.2) fun r85 => some (r85 0 6, r85)) else (some (((-100 : Int32)) - ((r67.2 0 14) - ((((60 : Int32)) * a0) + a2)), r67.2))) else (bd (f_X7_fails (up S 0 0 ((0 : Int32))) r30) fun r43 => some (r43.1, r43.2))) else (some ((-2 : Int32), up S 0 0 ((0 : Int32))))) else (some ((-1 : Int32), up S 0 0 ((0 : Int32))))
set_option maxHeartbeats 4000000 in
set_option maxRecDepth 100000 in
theorem w_f_X7_hall {G : Geo} {p : Program} {l : Launch} {e : Env} {s : State} {m : MethodId} {args : Array Value} {below : List Frame} {meth : Method} {c : Code} {A : Nat → Prop} {H0 : Heap} {Q : State → Prop} (C : Cx G RX7 cX7_hall 7 p s m args c) {S : St} {a0 : Int32} {a1 : Int32} {a2 : Int32} {a3 : Int32} {o : Int32 × St} (h : f_X7_hall S a0 a1 a2 a3 = some o) (K : KI 18 eM G A H0 cX7_hall p l e 4 s m args below meth c Q ((o).1) ((o).2)) : ∀ (H : Heap) (locs : List Loc) (ls : Array Slot), HM G A H0 S H locs → lv_has ls 7 [(0, .ref (adr G 0)), (1, .int a0), (2, .int a1), (3, .int a2), (4, .int a3)] → W p l e (rmK 4) s m args below meth c H locs 0 0 Q (F0 m 0 ls []) := by
  obtain ⟨hx, hb, -⟩ := id C
  intro H locs ls hW hl
  unfold f_X7_hall at h
  refine lv_aload_n hx hb dX7_hall_0 rfl (lv_at hl 0 rfl) ?_
  refine lv_iconst (v := 0) hx hb dX7_hall_1 (by decide) ?_
  refine pf_RX7_61 C hW dX7_hall_2 (fun H locs hW => ?_)
  refine lv_iload_n hx hb dX7_hall_5 rfl (lv_at hl 1 rfl) ?_
  obtain ⟨r6, r6h, h⟩ := bd_some h
  refine x_backI hW (x_runS (As := [.int a0]) (rest := []) C hW (c_X7_isSheet l G (S := up S 0 0 ((0 : Int32))) r6h H.size) cs_RX7_80 hl.1 rfl rfl ⟨by decide, by decide⟩ (Nat.le_of_ble_eq_true rfl) ⟨Nat.zero_le _, Nat.zero_le _⟩ dX7_hall_6) (fun H locs hW => ?_)
  refine z_if_ne (tgt := 14) hx hb dX7_hall_9 (by decide) (fun b9 => ?_) (fun b9 => ?_)
  · have h := it_t b9 h
    refine lv_iload_n hx hb dX7_hall_14 rfl (lv_at hl 2 rfl) ?_
    obtain ⟨r15, r15h, h⟩ := bd_some h
    refine x_backI hW (x_runS (As := [.int a1]) (rest := []) C hW (c_X7_isSort l G (S := up S 0 0 ((0 : Int32))) r15h H.size) cs_RX7_84 hl.1 rfl rfl ⟨by decide, by decide⟩ (Nat.le_of_ble_eq_true rfl) ⟨Nat.zero_le _, Nat.zero_le _⟩ dX7_hall_15) (fun H locs hW => ?_)
    refine z_if_ne (tgt := 24) hx hb dX7_hall_18 (by decide) (fun b18 => ?_) (fun b18 => ?_)
    · have h := it_t b18 h
      refine lv_aload_n hx hb dX7_hall_24 rfl (lv_at hl 0 rfl) ?_
      refine lv_iload_n hx hb dX7_hall_25 rfl (lv_at hl 1 rfl) ?_
      refine lv_iload_n hx hb dX7_hall_26 rfl (lv_at hl 2 rfl) ?_
      refine lv_iload_n hx hb dX7_hall_27 rfl (lv_at hl 3 rfl) ?_
      refine lv_iload hx hb dX7_hall_28 (lv_at hl 4 rfl) ?_
      obtain ⟨r30, r30h, h⟩ := bd_some h
      refine x_backI hW (x_runV (As := [.int a0, .int a1, .int a2, .int a3]) (rest := []) C hW (c_X7_against l G r30h H.size) cv_RX7_87 rv_X7 hl.1 rfl rfl ⟨by decide, by decide⟩ (Nat.le_of_ble_eq_true rfl) ⟨Nat.zero_le _, Nat.zero_le _⟩ dX7_hall_30) (fun H locs hW => ?_)
      refine lv_istore (lv' := [(5, .int r30), (0, .ref (adr G 0)), (1, .int a0), (2, .int a1), (3, .int a2), (4, .int a3)]) hx hb dX7_hall_33 hl (by decide) rfl (fun ls hl => ?_)
      refine lv_iload hx hb dX7_hall_35 (lv_at hl 0 rfl) ?_
      refine lv_if_eq (tgt := 47) hx hb dX7_hall_37 (by decide) (fun b37 => ?_) (fun b37 => ?_)
      · have h := it_t b37 h
        refine lv_bipush (v := 60) hx hb dX7_hall_47 (by decide) ?_
        refine lv_iload_n hx hb dX7_hall_49 rfl (lv_at hl 2 rfl) ?_
        refine lv_imul hx hb dX7_hall_50 ?_
        refine lv_iload_n hx hb dX7_hall_51 rfl (lv_at hl 4 rfl) ?_
        refine lv_iadd hx hb dX7_hall_52 ?_
        refine lv_istore (lv' := [(6, .int ((((60 : Int32)) * a0) + a2)), (5, .int r30), (0, .ref (adr G 0)), (1, .int a0), (2, .int a1), (3, .int a2), (4, .int a3)]) hx hb dX7_hall_53 hl (by decide) rfl (fun ls hl => ?_)
        refine lv_aload_n hx hb dX7_hall_55 rfl (lv_at hl 2 rfl) ?_
        refine lv_iload hx hb dX7_hall_56 (lv_at hl 0 rfl) ?_
        refine pf_RX7_77 C hW dX7_hall_58 (fun H locs hW => ?_)
        refine lv_aload_n hx hb dX7_hall_61 rfl (lv_at hl 2 rfl) ?_
        refine lv_iload hx hb dX7_hall_62 (lv_at hl 0 rfl) ?_
        refine lv_iload hx hb dX7_hall_64 (lv_at hl 6 rfl) ?_
        refine lv_iadd hx hb dX7_hall_66 ?_
        obtain ⟨r67, r67h, h⟩ := bd_some h
        refine x_backI hW (x_runV (As := [.int (((((60 : Int32)) * a0) + a2) + a3)]) (rest := []) C hW (c_X7_readHall l G r67h H.size) cv_RX7_95 rv_X7 hl.1 rfl rfl ⟨by decide, by decide⟩ (Nat.le_of_ble_eq_true rfl) ⟨Nat.zero_le _, Nat.zero_le _⟩ dX7_hall_67) (fun H locs hW => ?_)
        refine z_if_ne (tgt := 84) hx hb dX7_hall_70 (by decide) (fun b70 => ?_) (fun b70 => ?_)
        · have h := it_t b70 h
          refine lv_aload_n hx hb dX7_hall_84 rfl (lv_at hl 2 rfl) ?_
          obtain ⟨r85, r85h, h⟩ := bd_some h
          refine x_backV hW (x_runV (As := []) (rest := []) C hW (c_X7_takeHall l G r85h H.size) cv_RX7_98 rv_X7 hl.1 rfl rfl ⟨by decide, by decide⟩ (Nat.le_of_ble_eq_true rfl) ⟨Nat.zero_le _, Nat.zero_le _⟩ dX7_hall_85) (fun H locs hW => ?_)
          refine lv_aload_n hx hb dX7_hall_88 rfl (lv_at hl 2 rfl) ?_
          refine gf_RX7_74 C hW dX7_hall_89 ?_
          obtain rfl := Option.some.inj h
          exact K _ _ _ _ dX7_hall_92 hW
        · have h := it_f b70 h
          refine lv_bipush (v := (-100)) hx hb dX7_hall_73 (by decide) ?_
          refine lv_aload_n hx hb dX7_hall_75 rfl (lv_at hl 2 rfl) ?_
          refine gf_RX7_77 C hW dX7_hall_76 ?_
          refine lv_iload hx hb dX7_hall_79 (lv_at hl 0 rfl) ?_
          refine lv_isub hx hb dX7_hall_81 ?_
          refine lv_isub hx hb dX7_hall_82 ?_
          obtain rfl := Option.some.inj h
          exact K _ _ _ _ dX7_hall_83 hW
      · have h := it_f b37 h
        refine lv_aload_n hx hb dX7_hall_40 rfl (lv_at hl 1 rfl) ?_
        refine lv_iload hx hb dX7_hall_41 (lv_at hl 0 rfl) ?_
        obtain ⟨r43, r43h, h⟩ := bd_some h
        refine x_backI hW (x_runV (As := [.int r30]) (rest := []) C hW (c_X7_fails l G r43h H.size) cv_RX7_91 rv_X7 hl.1 rfl rfl ⟨by decide, by decide⟩ (Nat.le_of_ble_eq_true rfl) ⟨Nat.zero_le _, Nat.zero_le _⟩ dX7_hall_43) (fun H locs hW => ?_)
        obtain rfl := Option.some.inj h
        exact K _ _ _ _ dX7_hall_46 hW
    · have h := it_f b18 h
      refine lv_bipush (v := (-2)) hx hb dX7_hall_21 (by decide) ?_
      obtain rfl := Option.some.inj h
      exact K _ _ _ _ dX7_hall_23 hW
  · have h := it_f b9 h
    refine lv_iconst (v := (-1)) hx hb dX7_hall_12 (by decide) ?_
    obtain rfl := Option.some.inj h
    exact K _ _ _ _ dX7_hall_13 hW
set_option maxRecDepth 100000 in
theorem c_X7_hall (l : Launch) (G : Geo) {S : St} {a0 : Int32} {a1 : Int32} {a2 : Int32} {a3 : Int32} {o : Int32 × St} (h : f_X7_hall S a0 a1 a2 a3 = some o) : MI 18 eM G l yX7_hall cX7_hall 7 (some .int) 4 [.ref (adr G 0), .int a0, .int a1, .int a2, .int a3] S o.1 o.2 :=
  mI_of (by decide +kernel) (Nat.le_of_ble_eq_true rfl) (fun p e s m below meth c A H0 Q C K => w_f_X7_hall C h K)
def f_X7_halls (S : St) : Option (Int32 × St) :=
  if (S 0 5) = 0 then (some ((-3 : Int32), S)) else (bd (f_X7_findMany S ((-9 : Int32))) fun r15 => some (r15.1, r15.2))
set_option maxHeartbeats 4000000 in
set_option maxRecDepth 100000 in
theorem w_f_X7_halls {G : Geo} {p : Program} {l : Launch} {e : Env} {s : State} {m : MethodId} {args : Array Value} {below : List Frame} {meth : Method} {c : Code} {A : Nat → Prop} {H0 : Heap} {Q : State → Prop} (C : Cx G RX7 cX7_halls 1 p s m args c) {S : St}  {o : Int32 × St} (h : f_X7_halls S = some o) (K : KI 18 eM G A H0 cX7_halls p l e 3 s m args below meth c Q ((o).1) ((o).2)) : ∀ (H : Heap) (locs : List Loc) (ls : Array Slot), HM G A H0 S H locs → lv_has ls 1 [(0, .ref (adr G 0))] → W p l e (rmK 3) s m args below meth c H locs 0 0 Q (F0 m 0 ls []) := by
  obtain ⟨hx, hb, -⟩ := id C
  intro H locs ls hW hl
  unfold f_X7_halls at h
  refine lv_aload_n hx hb dX7_halls_0 rfl (lv_at hl 0 rfl) ?_
  refine gf_RX7_71 C hW dX7_halls_1 ?_
  refine lv_if_ne (tgt := 12) hx hb dX7_halls_4 (by decide) (fun b4 => ?_) (fun b4 => ?_)
  · have h := it_f b4 h
    refine lv_aload_n hx hb dX7_halls_12 rfl (lv_at hl 0 rfl) ?_
    refine lv_bipush (v := (-9)) hx hb dX7_halls_13 (by decide) ?_
    obtain ⟨r15, r15h, h⟩ := bd_some h
    refine x_backI hW (x_runV (As := [.int ((-9 : Int32))]) (rest := []) C hW (c_X7_findMany l G r15h H.size) cv_RX7_191 rv_X7 hl.1 rfl rfl ⟨by decide, by decide⟩ (Nat.le_of_ble_eq_true rfl) ⟨Nat.zero_le _, Nat.zero_le _⟩ dX7_halls_15) (fun H locs hW => ?_)
    obtain rfl := Option.some.inj h
    exact K _ _ _ _ dX7_halls_18 hW
  · have h := it_t b4 h
    refine lv_bipush (v := (-3)) hx hb dX7_halls_7 (by decide) ?_
    refine lv_goto (tgt := 18) hx hb dX7_halls_9 (by decide) ?_
    obtain rfl := Option.some.inj h
    exact K _ _ _ _ dX7_halls_18 hW
set_option maxRecDepth 100000 in
theorem c_X7_halls (l : Launch) (G : Geo) {S : St}  {o : Int32 × St} (h : f_X7_halls S = some o) : MI 18 eM G l yX7_halls cX7_halls 1 (some .int) 3 [.ref (adr G 0)] S o.1 o.2 :=
  mI_of (by decide +kernel) (Nat.le_of_ble_eq_true rfl) (fun p e s m below meth c A H0 Q C K => w_f_X7_halls C h K)
def i_X7_idle_19 (S : St) (x1 : Int32) (x2 : Int32) : Option ((Int32 × Int32) ⊕ (Int32 × Int32)) :=
  if (S 0 6) ≤ x2 then (some (.inr (x1, x2))) else (bd (f_X7_movedBy S ((0 : Int32)) x2 true) fun r35 => ck (okx r35 3125) <| if x1 = ((-9 : Int32)) then (some (.inl ((S 13 (ix r35)) + ((1 : Int32)), x2 + (1 : Int32)))) else (if x1 ≤ ((S 13 (ix r35)) + ((1 : Int32))) then (some (.inl (x1, x2 + (1 : Int32)))) else (some (.inl ((S 13 (ix r35)) + ((1 : Int32)), x2 + (1 : Int32))))))
set_option maxHeartbeats 4000000 in
set_option maxRecDepth 100000 in
theorem w_i_X7_idle_19 {G : Geo} {p : Program} {l : Launch} {e : Env} {s : State} {m : MethodId} {args : Array Value} {below : List Frame} {meth : Method} {c : Code} {A : Nat → Prop} {H0 : Heap} {Q : State → Prop} (C : Cx G RX7 cX7_idle 4 p s m args c) {S : St} {x1 : Int32} {x2 : Int32} {o : (Int32 × Int32) ⊕ (Int32 × Int32)} (h : i_X7_idle_19 S x1 x2 = some o) (Kn : ∀ q, o = .inl q → ∀ (H : Heap) (locs : List Loc) (ls : Array Slot), HM G A H0 S H locs → lv_has ls 4 [(0, .ref (adr G 0)), (1, .int (q.1)), (2, .int (q.2))] → W p l e (rmK 3) s m args below meth c H locs 0 0 Q (F0 m 19 ls [])) (Kt : ∀ q, o = .inr q → ∀ (H : Heap) (locs : List Loc) (ls : Array Slot), HM G A H0 S H locs → lv_has ls 4 [(1, .int (q.1))] → W p l e (rmK 3) s m args below meth c H locs 0 0 Q (F0 m 65 ls [])) : ∀ (H : Heap) (locs : List Loc) (ls : Array Slot), HM G A H0 S H locs → lv_has ls 4 [(0, .ref (adr G 0)), (1, .int x1), (2, .int x2)] → W p l e (rmK 3) s m args below meth c H locs 0 0 Q (F0 m 19 ls []) := by
  obtain ⟨hx, hb, -⟩ := id C
  intro H locs ls hW hl
  unfold i_X7_idle_19 at h
  refine lv_iload_n hx hb dX7_idle_19 rfl (lv_at hl 2 rfl) ?_
  refine lv_aload_n hx hb dX7_idle_20 rfl (lv_at hl 0 rfl) ?_
  refine gf_RX7_74 C hW dX7_idle_21 ?_
  refine lv_icmp_ge (tgt := 65) hx hb dX7_idle_24 (by decide) (fun b24 => ?_) (fun b24 => ?_)
  · have h := it_t b24 h
    obtain rfl := Option.some.inj h
    exact Kt _ rfl _ _ _ hW (lv_sub hl [1] rfl)
  · have h := it_f b24 h
    refine lv_aload_n hx hb dX7_idle_27 rfl (lv_at hl 0 rfl) ?_
    refine gf_RX7_46 C hW dX7_idle_28 ?_
    refine lv_aload_n hx hb dX7_idle_31 rfl (lv_at hl 0 rfl) ?_
    refine lv_iconst (v := 0) hx hb dX7_idle_32 (by decide) ?_
    refine lv_iload_n hx hb dX7_idle_33 rfl (lv_at hl 2 rfl) ?_
    refine lv_iconst (v := 1) hx hb dX7_idle_34 (by decide) ?_
    obtain ⟨r35, r35h, h⟩ := bd_some h
    refine x_backI hW (x_runV (As := [.int ((0 : Int32)), .int x2, .int (bi true)]) (rest := [.ref (adr G 13)]) C hW (c_X7_movedBy l G r35h H.size) cv_RX7_178 rv_X7 hl.1 rfl rfl ⟨by decide, by decide⟩ (Nat.le_of_ble_eq_true rfl) ⟨Nat.zero_le _, Nat.zero_le _⟩ dX7_idle_35) (fun H locs hW => ?_)
    obtain ⟨g38, h⟩ := ck_some h
    refine x_iald C hW (k := 13) (n := 3125) (by decide) (fun _ => rfl) g38 dX7_idle_38 ?_
    refine lv_iconst (v := 1) hx hb dX7_idle_39 (by decide) ?_
    refine lv_iadd hx hb dX7_idle_40 ?_
    refine lv_istore_n (lv' := [(3, .int ((S 13 (ix r35)) + ((1 : Int32)))), (0, .ref (adr G 0)), (1, .int x1), (2, .int x2)]) hx hb dX7_idle_41 rfl hl (by decide) rfl (fun ls hl => ?_)
    refine lv_iload_n hx hb dX7_idle_42 rfl (lv_at hl 2 rfl) ?_
    refine lv_bipush (v := (-9)) hx hb dX7_idle_43 (by decide) ?_
    refine lv_icmp_eq (tgt := 53) hx hb dX7_idle_45 (by decide) (fun b45 => ?_) (fun b45 => ?_)
    · have h := it_t b45 h
      refine lv_iload_n hx hb dX7_idle_53 rfl (lv_at hl 0 rfl) ?_
      refine lv_goto (tgt := 58) hx hb dX7_idle_54 (by decide) ?_
      refine lv_istore_n (lv' := [(1, .int ((S 13 (ix r35)) + ((1 : Int32)))), (3, .int ((S 13 (ix r35)) + ((1 : Int32)))), (0, .ref (adr G 0)), (2, .int x2)]) hx hb dX7_idle_58 rfl hl (by decide) rfl (fun ls hl => ?_)
      refine lv_iinc (v := (x2 + (1 : Int32))) (lv' := [(2, .int (x2 + (1 : Int32))), (1, .int ((S 13 (ix r35)) + ((1 : Int32)))), (3, .int ((S 13 (ix r35)) + ((1 : Int32)))), (0, .ref (adr G 0))]) hx hb dX7_idle_59 hl (k := 3) rfl rfl (by decide) rfl (fun ls hl => ?_)
      refine lv_goto (tgt := 19) hx hb dX7_idle_62 (by decide) ?_
      obtain rfl := Option.some.inj h
      exact Kn _ rfl _ _ _ hW (lv_sub hl [3, 1, 0] rfl)
    · have h := it_f b45 h
      refine lv_iload_n hx hb dX7_idle_48 rfl (lv_at hl 0 rfl) ?_
      refine lv_iload_n hx hb dX7_idle_49 rfl (lv_at hl 2 rfl) ?_
      refine lv_icmp_ge (tgt := 57) hx hb dX7_idle_50 (by decide) (fun b50 => ?_) (fun b50 => ?_)
      · have h := it_t b50 h
        refine lv_iload_n hx hb dX7_idle_57 rfl (lv_at hl 2 rfl) ?_
        refine lv_istore_n (lv' := [(1, .int x1), (3, .int ((S 13 (ix r35)) + ((1 : Int32)))), (0, .ref (adr G 0)), (2, .int x2)]) hx hb dX7_idle_58 rfl hl (by decide) rfl (fun ls hl => ?_)
        refine lv_iinc (v := (x2 + (1 : Int32))) (lv' := [(2, .int (x2 + (1 : Int32))), (1, .int x1), (3, .int ((S 13 (ix r35)) + ((1 : Int32)))), (0, .ref (adr G 0))]) hx hb dX7_idle_59 hl (k := 3) rfl rfl (by decide) rfl (fun ls hl => ?_)
        refine lv_goto (tgt := 19) hx hb dX7_idle_62 (by decide) ?_
        obtain rfl := Option.some.inj h
        exact Kn _ rfl _ _ _ hW (lv_sub hl [3, 1, 0] rfl)
      · have h := it_f b50 h
        refine lv_iload_n hx hb dX7_idle_53 rfl (lv_at hl 0 rfl) ?_
        refine lv_goto (tgt := 58) hx hb dX7_idle_54 (by decide) ?_
        refine lv_istore_n (lv' := [(1, .int ((S 13 (ix r35)) + ((1 : Int32)))), (3, .int ((S 13 (ix r35)) + ((1 : Int32)))), (0, .ref (adr G 0)), (2, .int x2)]) hx hb dX7_idle_58 rfl hl (by decide) rfl (fun ls hl => ?_)
        refine lv_iinc (v := (x2 + (1 : Int32))) (lv' := [(2, .int (x2 + (1 : Int32))), (1, .int ((S 13 (ix r35)) + ((1 : Int32)))), (3, .int ((S 13 (ix r35)) + ((1 : Int32)))), (0, .ref (adr G 0))]) hx hb dX7_idle_59 hl (k := 3) rfl rfl (by decide) rfl (fun ls hl => ?_)
        refine lv_goto (tgt := 19) hx hb dX7_idle_62 (by decide) ?_
        obtain rfl := Option.some.inj h
        exact Kn _ rfl _ _ _ hW (lv_sub hl [3, 1, 0] rfl)
set_option maxHeartbeats 4000000 in
set_option maxRecDepth 100000 in
theorem l_i_X7_idle_19 {G : Geo} {p : Program} {l : Launch} {e : Env} {s : State} {m : MethodId} {args : Array Value} {below : List Frame} {meth : Method} {c : Code} {A : Nat → Prop} {H0 : Heap} {Q : State → Prop} (C : Cx G RX7 cX7_idle 4 p s m args c) {S : St}  {n : Nat} {q0 : Int32 × Int32} {u : Int32 × Int32} (hq : iter (fun q : Int32 × Int32 => i_X7_idle_19 S q.1 q.2) n q0 = some u) (Kt : (fun q : Int32 × Int32 => ∀ (H : Heap) (locs : List Loc) (ls : Array Slot), HM G A H0 S H locs → lv_has ls 4 [(1, .int (q.1))] → W p l e (rmK 3) s m args below meth c H locs 0 0 Q (F0 m 65 ls [])) u) : (fun q : Int32 × Int32 => ∀ (H : Heap) (locs : List Loc) (ls : Array Slot), HM G A H0 S H locs → lv_has ls 4 [(0, .ref (adr G 0)), (1, .int (q.1)), (2, .int (q.2))] → W p l e (rmK 3) s m args below meth c H locs 0 0 Q (F0 m 19 ls [])) q0 :=
  iter_W (P := fun q : Int32 × Int32 => ∀ (H : Heap) (locs : List Loc) (ls : Array Slot), HM G A H0 S H locs → lv_has ls 4 [(0, .ref (adr G 0)), (1, .int (q.1)), (2, .int (q.2))] → W p l e (rmK 3) s m args below meth c H locs 0 0 Q (F0 m 19 ls [])) (K := fun q : Int32 × Int32 => ∀ (H : Heap) (locs : List Loc) (ls : Array Slot), HM G A H0 S H locs → lv_has ls 4 [(1, .int (q.1))] → W p l e (rmK 3) s m args below meth c H locs 0 0 Q (F0 m 65 ls [])) (fun q o hit Kn Kt => w_i_X7_idle_19 C  hit Kn Kt) n q0 u hq Kt
def f_X7_idle (S : St) : Option (Int32 × St) :=
  if (S 0 5) = 0 then (some ((-3 : Int32), S)) else (bd (f_X7_findFar S) fun r11 => bd (iter (fun q => i_X7_idle_19 r11 q.1 q.2) BIG ((-9 : Int32), (0 : Int32))) fun q19 => some (q19.1, r11))
set_option maxHeartbeats 4000000 in
set_option maxRecDepth 100000 in
theorem w_f_X7_idle {G : Geo} {p : Program} {l : Launch} {e : Env} {s : State} {m : MethodId} {args : Array Value} {below : List Frame} {meth : Method} {c : Code} {A : Nat → Prop} {H0 : Heap} {Q : State → Prop} (C : Cx G RX7 cX7_idle 4 p s m args c) {S : St}  {o : Int32 × St} (h : f_X7_idle S = some o) (K : KI 18 eM G A H0 cX7_idle p l e 3 s m args below meth c Q ((o).1) ((o).2)) : ∀ (H : Heap) (locs : List Loc) (ls : Array Slot), HM G A H0 S H locs → lv_has ls 4 [(0, .ref (adr G 0))] → W p l e (rmK 3) s m args below meth c H locs 0 0 Q (F0 m 0 ls []) := by
  obtain ⟨hx, hb, -⟩ := id C
  intro H locs ls hW hl
  unfold f_X7_idle at h
  refine lv_aload_n hx hb dX7_idle_0 rfl (lv_at hl 0 rfl) ?_
  refine gf_RX7_71 C hW dX7_idle_1 ?_
  refine lv_if_ne (tgt := 10) hx hb dX7_idle_4 (by decide) (fun b4 => ?_) (fun b4 => ?_)
  · have h := it_f b4 h
    refine lv_aload_n hx hb dX7_idle_10 rfl (lv_at hl 0 rfl) ?_
    obtain ⟨r11, r11h, h⟩ := bd_some h
    refine x_backV hW (x_runV (As := []) (rest := []) C hW (c_X7_findFar l G r11h H.size) cv_RX7_182 rv_X7 hl.1 rfl rfl ⟨by decide, by decide⟩ (Nat.le_of_ble_eq_true rfl) ⟨Nat.zero_le _, Nat.zero_le _⟩ dX7_idle_11) (fun H locs hW => ?_)
    refine lv_bipush (v := (-9)) hx hb dX7_idle_14 (by decide) ?_
    refine lv_istore_n (lv' := [(1, .int ((-9 : Int32))), (0, .ref (adr G 0))]) hx hb dX7_idle_16 rfl hl (by decide) rfl (fun ls hl => ?_)
    refine lv_iconst (v := 0) hx hb dX7_idle_17 (by decide) ?_
    refine lv_istore_n (lv' := [(2, .int ((0 : Int32))), (1, .int ((-9 : Int32))), (0, .ref (adr G 0))]) hx hb dX7_idle_18 rfl hl (by decide) rfl (fun ls hl => ?_)
    obtain ⟨q19, q19h, h⟩ := bd_some h
    refine l_i_X7_idle_19 C  q19h ?_ _ _ _ hW (lv_sub hl [2, 1, 0] rfl)
    intro H locs ls hW hl
    refine lv_iload_n hx hb dX7_idle_65 rfl (lv_at hl 0 rfl) ?_
    obtain rfl := Option.some.inj h
    exact K _ _ _ _ dX7_idle_66 hW
  · have h := it_t b4 h
    refine lv_bipush (v := (-3)) hx hb dX7_idle_7 (by decide) ?_
    obtain rfl := Option.some.inj h
    exact K _ _ _ _ dX7_idle_9 hW
set_option maxRecDepth 100000 in
theorem c_X7_idle (l : Launch) (G : Geo) {S : St}  {o : Int32 × St} (h : f_X7_idle S = some o) : MI 18 eM G l yX7_idle cX7_idle 4 (some .int) 3 [.ref (adr G 0)] S o.1 o.2 :=
  mI_of (by decide +kernel) (Nat.le_of_ble_eq_true rfl) (fun p e s m below meth c A H0 Q C K => w_f_X7_idle C h K)
def i_X7_inLeastTerms_6 (x0 : Int64) (x2 : Int64) (x4 : Int32) (x5 : Int64) (x7 : Int64) : Option ((Int64 × Int64) ⊕ (Int64 × Int64)) :=
  if (lg_cmp x7 ((0 : Int64))) = 0 then (some (.inr (x5, x7))) else (ck (¬ x7 = 0) <| some (.inl (x7, rem64 x5 x7)))
set_option maxHeartbeats 4000000 in
set_option maxRecDepth 100000 in
theorem w_i_X7_inLeastTerms_6 {G : Geo} {p : Program} {l : Launch} {e : Env} {s : State} {m : MethodId} {args : Array Value} {below : List Frame} {meth : Method} {c : Code} {A : Nat → Prop} {H0 : Heap} {Q : State → Prop} (C : Cx G RX7 cX7_inLeastTerms 11 p s m args c) {S : St} {x0 : Int64} {x2 : Int64} {x4 : Int32} {x5 : Int64} {x7 : Int64} {o : (Int64 × Int64) ⊕ (Int64 × Int64)} (h : i_X7_inLeastTerms_6 x0 x2 x4 x5 x7 = some o) (Kn : ∀ q, o = .inl q → ∀ (H : Heap) (locs : List Loc) (ls : Array Slot), HM G A H0 S H locs → lv_has ls 11 [(0, .long x0), (2, .long x2), (4, .int x4), (5, .long q.1), (7, .long q.2)] → W p l e (rmK 0) s m args below meth c H locs 0 0 Q (F0 m 6 ls [])) (Kt : ∀ q, o = .inr q → ∀ (H : Heap) (locs : List Loc) (ls : Array Slot), HM G A H0 S H locs → lv_has ls 11 [(0, .long x0), (2, .long x2), (4, .int x4), (5, .long q.1)] → W p l e (rmK 0) s m args below meth c H locs 0 0 Q (F0 m 31 ls [])) : ∀ (H : Heap) (locs : List Loc) (ls : Array Slot), HM G A H0 S H locs → lv_has ls 11 [(0, .long x0), (2, .long x2), (4, .int x4), (5, .long x5), (7, .long x7)] → W p l e (rmK 0) s m args below meth c H locs 0 0 Q (F0 m 6 ls []) := by
  obtain ⟨hx, hb, -⟩ := id C
  intro H locs ls hW hl
  unfold i_X7_inLeastTerms_6 at h
  refine lv_lload hx hb dX7_inLeastTerms_6 (lv_at hl 4 rfl) ?_
  refine lv_lconst (v := 0) hx hb dX7_inLeastTerms_8 (by decide) ?_
  refine W.lcmp hx hb dX7_inLeastTerms_9 ?_
  refine lv_if_eq (tgt := 31) hx hb dX7_inLeastTerms_10 (by decide) (fun b10 => ?_) (fun b10 => ?_)
  · have h := it_t b10 h
    obtain rfl := Option.some.inj h
    exact Kt _ rfl _ _ _ hW (lv_sub hl [0, 1, 2, 3] rfl)
  · have h := it_f b10 h
    refine lv_lload hx hb dX7_inLeastTerms_13 (lv_at hl 3 rfl) ?_
    refine lv_lload hx hb dX7_inLeastTerms_15 (lv_at hl 4 rfl) ?_
    obtain ⟨g17, h⟩ := ck_some h
    refine lv_lrem hx hb dX7_inLeastTerms_17 g17 ?_
    refine lv_lstore (lv' := [(9, .long (rem64 x5 x7)), (0, .long x0), (2, .long x2), (4, .int x4), (5, .long x5), (7, .long x7)]) hx hb dX7_inLeastTerms_18 hl (by decide) rfl (fun ls hl => ?_)
    refine lv_lload hx hb dX7_inLeastTerms_20 (lv_at hl 5 rfl) ?_
    refine lv_lstore (lv' := [(5, .long x7), (9, .long (rem64 x5 x7)), (0, .long x0), (2, .long x2), (4, .int x4), (7, .long x7)]) hx hb dX7_inLeastTerms_22 hl (by decide) rfl (fun ls hl => ?_)
    refine lv_lload hx hb dX7_inLeastTerms_24 (lv_at hl 1 rfl) ?_
    refine lv_lstore (lv' := [(7, .long (rem64 x5 x7)), (5, .long x7), (9, .long (rem64 x5 x7)), (0, .long x0), (2, .long x2), (4, .int x4)]) hx hb dX7_inLeastTerms_26 hl (by decide) rfl (fun ls hl => ?_)
    refine lv_goto (tgt := 6) hx hb dX7_inLeastTerms_28 (by decide) ?_
    obtain rfl := Option.some.inj h
    exact Kn _ rfl _ _ _ hW (lv_sub hl [3, 4, 5, 1, 0] rfl)
set_option maxHeartbeats 4000000 in
set_option maxRecDepth 100000 in
theorem l_i_X7_inLeastTerms_6 {G : Geo} {p : Program} {l : Launch} {e : Env} {s : State} {m : MethodId} {args : Array Value} {below : List Frame} {meth : Method} {c : Code} {A : Nat → Prop} {H0 : Heap} {Q : State → Prop} (C : Cx G RX7 cX7_inLeastTerms 11 p s m args c) {S : St} {x0 : Int64} {x2 : Int64} {x4 : Int32} {n : Nat} {q0 : Int64 × Int64} {u : Int64 × Int64} (hq : iter (fun q : Int64 × Int64 => i_X7_inLeastTerms_6 x0 x2 x4 q.1 q.2) n q0 = some u) (Kt : (fun q : Int64 × Int64 => ∀ (H : Heap) (locs : List Loc) (ls : Array Slot), HM G A H0 S H locs → lv_has ls 11 [(0, .long x0), (2, .long x2), (4, .int x4), (5, .long q.1)] → W p l e (rmK 0) s m args below meth c H locs 0 0 Q (F0 m 31 ls [])) u) : (fun q : Int64 × Int64 => ∀ (H : Heap) (locs : List Loc) (ls : Array Slot), HM G A H0 S H locs → lv_has ls 11 [(0, .long x0), (2, .long x2), (4, .int x4), (5, .long q.1), (7, .long q.2)] → W p l e (rmK 0) s m args below meth c H locs 0 0 Q (F0 m 6 ls [])) q0 :=
  iter_W (P := fun q : Int64 × Int64 => ∀ (H : Heap) (locs : List Loc) (ls : Array Slot), HM G A H0 S H locs → lv_has ls 11 [(0, .long x0), (2, .long x2), (4, .int x4), (5, .long q.1), (7, .long q.2)] → W p l e (rmK 0) s m args below meth c H locs 0 0 Q (F0 m 6 ls [])) (K := fun q : Int64 × Int64 => ∀ (H : Heap) (locs : List Loc) (ls : Array Slot), HM G A H0 S H locs → lv_has ls 11 [(0, .long x0), (2, .long x2), (4, .int x4), (5, .long q.1)] → W p l e (rmK 0) s m args below meth c H locs 0 0 Q (F0 m 31 ls [])) (fun q o hit Kn Kt => w_i_X7_inLeastTerms_6 C  hit Kn Kt) n q0 u hq Kt
def f_X7_inLeastTerms (a0 : Int64) (a1 : Int64) (a2 : Int32) : Option (Int64) :=
  bd (iter (fun q => i_X7_inLeastTerms_6 a0 a1 a2 q.1 q.2) BIG (a0, a1)) fun q6 => if a2 = 0 then (ck (¬ q6.1 = 0) <| some (a0 / q6.1)) else (ck (¬ q6.1 = 0) <| some (a1 / q6.1))
set_option maxHeartbeats 4000000 in
set_option maxRecDepth 100000 in
theorem w_f_X7_inLeastTerms {G : Geo} {p : Program} {l : Launch} {e : Env} {s : State} {m : MethodId} {args : Array Value} {below : List Frame} {meth : Method} {c : Code} {A : Nat → Prop} {H0 : Heap} {Q : State → Prop} (C : Cx G RX7 cX7_inLeastTerms 11 p s m args c) {S : St} {a0 : Int64} {a1 : Int64} {a2 : Int32} {o : Int64} (h : f_X7_inLeastTerms a0 a1 a2 = some o) (K : KL 18 eM G A H0 cX7_inLeastTerms p l e 0 s m args below meth c Q o S) : ∀ (H : Heap) (locs : List Loc) (ls : Array Slot), HM G A H0 S H locs → lv_has ls 11 [(0, .long a0), (2, .long a1), (4, .int a2)] → W p l e (rmK 0) s m args below meth c H locs 0 0 Q (F0 m 0 ls []) := by
  obtain ⟨hx, hb, -⟩ := id C
  intro H locs ls hW hl
  unfold f_X7_inLeastTerms at h
  refine lv_lload_n hx hb dX7_inLeastTerms_0 rfl (lv_at hl 0 rfl) ?_
  refine lv_lstore (lv' := [(5, .long a0), (0, .long a0), (2, .long a1), (4, .int a2)]) hx hb dX7_inLeastTerms_1 hl (by decide) rfl (fun ls hl => ?_)
  refine lv_lload_n hx hb dX7_inLeastTerms_3 rfl (lv_at hl 2 rfl) ?_
  refine lv_lstore (lv' := [(7, .long a1), (5, .long a0), (0, .long a0), (2, .long a1), (4, .int a2)]) hx hb dX7_inLeastTerms_4 hl (by decide) rfl (fun ls hl => ?_)
  obtain ⟨q6, q6h, h⟩ := bd_some h
  refine l_i_X7_inLeastTerms_6 C  q6h ?_ _ _ _ hW (lv_sub hl [2, 3, 4, 1, 0] rfl)
  intro H locs ls hW hl
  refine lv_iload hx hb dX7_inLeastTerms_31 (lv_at hl 2 rfl) ?_
  refine lv_if_ne (tgt := 43) hx hb dX7_inLeastTerms_33 (by decide) (fun b33 => ?_) (fun b33 => ?_)
  · have h := it_f b33 h
    refine lv_lload_n hx hb dX7_inLeastTerms_43 rfl (lv_at hl 1 rfl) ?_
    refine lv_lload hx hb dX7_inLeastTerms_44 (lv_at hl 3 rfl) ?_
    obtain ⟨g46, h⟩ := ck_some h
    refine lv_ldiv hx hb dX7_inLeastTerms_46 g46 ?_
    obtain rfl := Option.some.inj h
    exact K _ _ _ _ dX7_inLeastTerms_47 hW
  · have h := it_t b33 h
    refine lv_lload_n hx hb dX7_inLeastTerms_36 rfl (lv_at hl 0 rfl) ?_
    refine lv_lload hx hb dX7_inLeastTerms_37 (lv_at hl 3 rfl) ?_
    obtain ⟨g39, h⟩ := ck_some h
    refine lv_ldiv hx hb dX7_inLeastTerms_39 g39 ?_
    refine lv_goto (tgt := 47) hx hb dX7_inLeastTerms_40 (by decide) ?_
    obtain rfl := Option.some.inj h
    exact K _ _ _ _ dX7_inLeastTerms_47 hW
set_option maxRecDepth 100000 in
theorem c_X7_inLeastTerms (l : Launch) (G : Geo) {S : St} {a0 : Int64} {a1 : Int64} {a2 : Int32} {o : Int64} (h : f_X7_inLeastTerms a0 a1 a2 = some o) : ML 18 eM G l yX7_inLeastTerms cX7_inLeastTerms 11 (some .long) 0 [.long a0, .long a1, .int a2] S o S :=
  mL_of (by decide +kernel) (Nat.le_of_ble_eq_true rfl) (fun p e s m below meth c A H0 Q C K => w_f_X7_inLeastTerms C h K)
def i_X7_kinds_22 (S : St) (x1 : Int32) (x2 : Int32) (x3 : Int32) (x4 : Int32) : Option ((St × Int32 × Int32) ⊕ (St × Int32 × Int32)) :=
  if ((3 : Int32)) ≤ x4 then (some (.inr (S, x3, x4))) else (ck (okx x1 5) <| bd (f_X7_areSo (up S 6 (ix x1) x4)) fun r38 => if r38 = false then (some (.inl (up S 6 (ix x1) x4, x3 ||| ((0 : Int32)), x4 + (1 : Int32)))) else (some (.inl (up S 6 (ix x1) x4, x3 ||| (shl32 ((1 : Int32)) x4), x4 + (1 : Int32)))))
set_option maxHeartbeats 4000000 in
set_option maxRecDepth 100000 in
theorem w_i_X7_kinds_22 {G : Geo} {p : Program} {l : Launch} {e : Env} {s : State} {m : MethodId} {args : Array Value} {below : List Frame} {meth : Method} {c : Code} {A : Nat → Prop} {H0 : Heap} {Q : State → Prop} (C : Cx G RX7 cX7_kinds 5 p s m args c) {S : St} {x1 : Int32} {x2 : Int32} {x3 : Int32} {x4 : Int32} {o : (St × Int32 × Int32) ⊕ (St × Int32 × Int32)} (h : i_X7_kinds_22 S x1 x2 x3 x4 = some o) (Kn : ∀ q, o = .inl q → ∀ (H : Heap) (locs : List Loc) (ls : Array Slot), HM G A H0 q.1 H locs → lv_has ls 5 [(0, .ref (adr G 0)), (1, .int x1), (2, .int x2), (3, .int (q.2.1)), (4, .int (q.2.2))] → W p l e (rmK 2) s m args below meth c H locs 0 0 Q (F0 m 22 ls [])) (Kt : ∀ q, o = .inr q → ∀ (H : Heap) (locs : List Loc) (ls : Array Slot), HM G A H0 q.1 H locs → lv_has ls 5 [(0, .ref (adr G 0)), (1, .int x1), (2, .int x2), (3, .int (q.2.1))] → W p l e (rmK 2) s m args below meth c H locs 0 0 Q (F0 m 60 ls [])) : ∀ (H : Heap) (locs : List Loc) (ls : Array Slot), HM G A H0 S H locs → lv_has ls 5 [(0, .ref (adr G 0)), (1, .int x1), (2, .int x2), (3, .int x3), (4, .int x4)] → W p l e (rmK 2) s m args below meth c H locs 0 0 Q (F0 m 22 ls []) := by
  obtain ⟨hx, hb, -⟩ := id C
  intro H locs ls hW hl
  unfold i_X7_kinds_22 at h
  refine lv_iload hx hb dX7_kinds_22 (lv_at hl 4 rfl) ?_
  refine lv_iconst (v := 3) hx hb dX7_kinds_24 (by decide) ?_
  refine lv_icmp_ge (tgt := 60) hx hb dX7_kinds_25 (by decide) (fun b25 => ?_) (fun b25 => ?_)
  · have h := it_t b25 h
    obtain rfl := Option.some.inj h
    exact Kt _ rfl _ _ _ hW (lv_sub hl [0, 1, 2, 3] rfl)
  · have h := it_f b25 h
    refine lv_aload_n hx hb dX7_kinds_28 rfl (lv_at hl 0 rfl) ?_
    refine gf_RX7_25 C hW dX7_kinds_29 ?_
    refine lv_iload_n hx hb dX7_kinds_32 rfl (lv_at hl 1 rfl) ?_
    refine lv_iload hx hb dX7_kinds_33 (lv_at hl 4 rfl) ?_
    obtain ⟨g35, h⟩ := ck_some h
    refine x_iast C hW (k := 6) (n := 5) (by decide) (fun _ => rfl) g35 dX7_kinds_35 (fun H locs hW => ?_)
    refine lv_iload_n hx hb dX7_kinds_36 rfl (lv_at hl 3 rfl) ?_
    refine lv_aload_n hx hb dX7_kinds_37 rfl (lv_at hl 0 rfl) ?_
    obtain ⟨r38, r38h, h⟩ := bd_some h
    refine x_backI hW (x_runV (As := []) (rest := [.int x3]) C hW (c_X7_areSo l G r38h H.size) cv_RX7_194 rv_X7 hl.1 rfl rfl ⟨by decide, by decide⟩ (Nat.le_of_ble_eq_true rfl) ⟨Nat.zero_le _, Nat.zero_le _⟩ dX7_kinds_38) (fun H locs hW => ?_)
    refine z_if_eq (tgt := 51) hx hb dX7_kinds_41 (by decide) (fun b41 => ?_) (fun b41 => ?_)
    · have h := it_t b41 h
      refine lv_iconst (v := 0) hx hb dX7_kinds_51 (by decide) ?_
      refine lv_ior hx hb dX7_kinds_52 ?_
      refine lv_istore_n (lv' := [(3, .int (x3 ||| ((0 : Int32)))), (0, .ref (adr G 0)), (1, .int x1), (2, .int x2), (4, .int x4)]) hx hb dX7_kinds_53 rfl hl (by decide) rfl (fun ls hl => ?_)
      refine lv_iinc (v := (x4 + (1 : Int32))) (lv' := [(4, .int (x4 + (1 : Int32))), (3, .int (x3 ||| ((0 : Int32)))), (0, .ref (adr G 0)), (1, .int x1), (2, .int x2)]) hx hb dX7_kinds_54 hl (k := 4) rfl rfl (by decide) rfl (fun ls hl => ?_)
      refine lv_goto (tgt := 22) hx hb dX7_kinds_57 (by decide) ?_
      obtain rfl := Option.some.inj h
      exact Kn _ rfl _ _ _ hW (lv_sub hl [2, 3, 4, 1, 0] rfl)
    · have h := it_f b41 h
      refine lv_iconst (v := 1) hx hb dX7_kinds_44 (by decide) ?_
      refine lv_iload hx hb dX7_kinds_45 (lv_at hl 4 rfl) ?_
      refine lv_ishl hx hb dX7_kinds_47 ?_
      refine lv_goto (tgt := 52) hx hb dX7_kinds_48 (by decide) ?_
      refine lv_ior hx hb dX7_kinds_52 ?_
      refine lv_istore_n (lv' := [(3, .int (x3 ||| (shl32 ((1 : Int32)) x4))), (0, .ref (adr G 0)), (1, .int x1), (2, .int x2), (4, .int x4)]) hx hb dX7_kinds_53 rfl hl (by decide) rfl (fun ls hl => ?_)
      refine lv_iinc (v := (x4 + (1 : Int32))) (lv' := [(4, .int (x4 + (1 : Int32))), (3, .int (x3 ||| (shl32 ((1 : Int32)) x4))), (0, .ref (adr G 0)), (1, .int x1), (2, .int x2)]) hx hb dX7_kinds_54 hl (k := 4) rfl rfl (by decide) rfl (fun ls hl => ?_)
      refine lv_goto (tgt := 22) hx hb dX7_kinds_57 (by decide) ?_
      obtain rfl := Option.some.inj h
      exact Kn _ rfl _ _ _ hW (lv_sub hl [2, 3, 4, 1, 0] rfl)
set_option maxHeartbeats 4000000 in
set_option maxRecDepth 100000 in
theorem l_i_X7_kinds_22 {G : Geo} {p : Program} {l : Launch} {e : Env} {s : State} {m : MethodId} {args : Array Value} {below : List Frame} {meth : Method} {c : Code} {A : Nat → Prop} {H0 : Heap} {Q : State → Prop} (C : Cx G RX7 cX7_kinds 5 p s m args c) {x1 : Int32} {x2 : Int32} {n : Nat} {q0 : St × Int32 × Int32} {u : St × Int32 × Int32} (hq : iter (fun q : St × Int32 × Int32 => i_X7_kinds_22 q.1 x1 x2 q.2.1 q.2.2) n q0 = some u) (Kt : (fun q : St × Int32 × Int32 => ∀ (H : Heap) (locs : List Loc) (ls : Array Slot), HM G A H0 q.1 H locs → lv_has ls 5 [(0, .ref (adr G 0)), (1, .int x1), (2, .int x2), (3, .int (q.2.1))] → W p l e (rmK 2) s m args below meth c H locs 0 0 Q (F0 m 60 ls [])) u) : (fun q : St × Int32 × Int32 => ∀ (H : Heap) (locs : List Loc) (ls : Array Slot), HM G A H0 q.1 H locs → lv_has ls 5 [(0, .ref (adr G 0)), (1, .int x1), (2, .int x2), (3, .int (q.2.1)), (4, .int (q.2.2))] → W p l e (rmK 2) s m args below meth c H locs 0 0 Q (F0 m 22 ls [])) q0 :=
  iter_W (P := fun q : St × Int32 × Int32 => ∀ (H : Heap) (locs : List Loc) (ls : Array Slot), HM G A H0 q.1 H locs → lv_has ls 5 [(0, .ref (adr G 0)), (1, .int x1), (2, .int x2), (3, .int (q.2.1)), (4, .int (q.2.2))] → W p l e (rmK 2) s m args below meth c H locs 0 0 Q (F0 m 22 ls [])) (K := fun q : St × Int32 × Int32 => ∀ (H : Heap) (locs : List Loc) (ls : Array Slot), HM G A H0 q.1 H locs → lv_has ls 5 [(0, .ref (adr G 0)), (1, .int x1), (2, .int x2), (3, .int (q.2.1))] → W p l e (rmK 2) s m args below meth c H locs 0 0 Q (F0 m 60 ls [])) (fun q o hit Kn Kt => w_i_X7_kinds_22 C  hit Kn Kt) n q0 u hq Kt
def f_X7_kinds (S : St) (a0 : Int32) : Option (Int32 × St) :=
  bd (f_X7_isSwitch S a0) fun r2 => if r2 = true then (ck (okx a0 5) <| bd (iter (fun q => i_X7_kinds_22 q.1 a0 (S 6 (ix a0)) q.2.1 q.2.2) BIG (S, (0 : Int32), (0 : Int32))) fun q22 => ck (okx a0 5) <| some (q22.2.1, up q22.1 6 (ix a0) (S 6 (ix a0)))) else (some ((-1 : Int32), S))
set_option maxHeartbeats 4000000 in
set_option maxRecDepth 100000 in
theorem w_f_X7_kinds {G : Geo} {p : Program} {l : Launch} {e : Env} {s : State} {m : MethodId} {args : Array Value} {below : List Frame} {meth : Method} {c : Code} {A : Nat → Prop} {H0 : Heap} {Q : State → Prop} (C : Cx G RX7 cX7_kinds 5 p s m args c) {S : St} {a0 : Int32} {o : Int32 × St} (h : f_X7_kinds S a0 = some o) (K : KI 18 eM G A H0 cX7_kinds p l e 2 s m args below meth c Q ((o).1) ((o).2)) : ∀ (H : Heap) (locs : List Loc) (ls : Array Slot), HM G A H0 S H locs → lv_has ls 5 [(0, .ref (adr G 0)), (1, .int a0)] → W p l e (rmK 2) s m args below meth c H locs 0 0 Q (F0 m 0 ls []) := by
  obtain ⟨hx, hb, -⟩ := id C
  intro H locs ls hW hl
  unfold f_X7_kinds at h
  refine lv_aload_n hx hb dX7_kinds_0 rfl (lv_at hl 0 rfl) ?_
  refine lv_iload_n hx hb dX7_kinds_1 rfl (lv_at hl 1 rfl) ?_
  obtain ⟨r2, r2h, h⟩ := bd_some h
  refine x_backI hW (x_runV (As := [.int a0]) (rest := []) C hW (c_X7_isSwitch l G r2h H.size) cv_RX7_133 rv_X7 hl.1 rfl rfl ⟨by decide, by decide⟩ (Nat.le_of_ble_eq_true rfl) ⟨Nat.zero_le _, Nat.zero_le _⟩ dX7_kinds_2) (fun H locs hW => ?_)
  refine z_if_ne (tgt := 10) hx hb dX7_kinds_5 (by decide) (fun b5 => ?_) (fun b5 => ?_)
  · have h := it_t b5 h
    refine lv_aload_n hx hb dX7_kinds_10 rfl (lv_at hl 0 rfl) ?_
    refine gf_RX7_25 C hW dX7_kinds_11 ?_
    refine lv_iload_n hx hb dX7_kinds_14 rfl (lv_at hl 1 rfl) ?_
    obtain ⟨g15, h⟩ := ck_some h
    refine x_iald C hW (k := 6) (n := 5) (by decide) (fun _ => rfl) g15 dX7_kinds_15 ?_
    refine lv_istore_n (lv' := [(2, .int (S 6 (ix a0))), (0, .ref (adr G 0)), (1, .int a0)]) hx hb dX7_kinds_16 rfl hl (by decide) rfl (fun ls hl => ?_)
    refine lv_iconst (v := 0) hx hb dX7_kinds_17 (by decide) ?_
    refine lv_istore_n (lv' := [(3, .int ((0 : Int32))), (2, .int (S 6 (ix a0))), (0, .ref (adr G 0)), (1, .int a0)]) hx hb dX7_kinds_18 rfl hl (by decide) rfl (fun ls hl => ?_)
    refine lv_iconst (v := 0) hx hb dX7_kinds_19 (by decide) ?_
    refine lv_istore (lv' := [(4, .int ((0 : Int32))), (3, .int ((0 : Int32))), (2, .int (S 6 (ix a0))), (0, .ref (adr G 0)), (1, .int a0)]) hx hb dX7_kinds_20 hl (by decide) rfl (fun ls hl => ?_)
    obtain ⟨q22, q22h, h⟩ := bd_some h
    refine l_i_X7_kinds_22 C  q22h ?_ _ _ _ hW (lv_sub hl [3, 4, 2, 1, 0] rfl)
    intro H locs ls hW hl
    refine lv_aload_n hx hb dX7_kinds_60 rfl (lv_at hl 0 rfl) ?_
    refine gf_RX7_25 C hW dX7_kinds_61 ?_
    refine lv_iload_n hx hb dX7_kinds_64 rfl (lv_at hl 1 rfl) ?_
    refine lv_iload_n hx hb dX7_kinds_65 rfl (lv_at hl 2 rfl) ?_
    obtain ⟨g66, h⟩ := ck_some h
    refine x_iast C hW (k := 6) (n := 5) (by decide) (fun _ => rfl) g66 dX7_kinds_66 (fun H locs hW => ?_)
    refine lv_iload_n hx hb dX7_kinds_67 rfl (lv_at hl 3 rfl) ?_
    obtain rfl := Option.some.inj h
    exact K _ _ _ _ dX7_kinds_68 hW
  · have h := it_f b5 h
    refine lv_iconst (v := (-1)) hx hb dX7_kinds_8 (by decide) ?_
    obtain rfl := Option.some.inj h
    exact K _ _ _ _ dX7_kinds_9 hW
set_option maxRecDepth 100000 in
theorem c_X7_kinds (l : Launch) (G : Geo) {S : St} {a0 : Int32} {o : Int32 × St} (h : f_X7_kinds S a0 = some o) : MI 18 eM G l yX7_kinds cX7_kinds 5 (some .int) 2 [.ref (adr G 0), .int a0] S o.1 o.2 :=
  mI_of (by decide +kernel) (Nat.le_of_ble_eq_true rfl) (fun p e s m below meth c A H0 Q C K => w_f_X7_kinds C h K)
def f_X7_lose (S : St) (a0 : Int32) : Option (Int32 × St) :=
  bd (f_X7_isSheet a0) fun r1 => if r1 = true then (ck (okx a0 4) <| if (S 1 (ix a0)) = ((-9 : Int32)) then (ck (okx a0 4) <| some ((0 : Int32), up S 1 (ix a0) ((-9 : Int32)))) else (ck (okx a0 4) <| some ((1 : Int32), up S 1 (ix a0) ((-9 : Int32))))) else (some ((-1 : Int32), S))
set_option maxHeartbeats 4000000 in
set_option maxRecDepth 100000 in
theorem w_f_X7_lose {G : Geo} {p : Program} {l : Launch} {e : Env} {s : State} {m : MethodId} {args : Array Value} {below : List Frame} {meth : Method} {c : Code} {A : Nat → Prop} {H0 : Heap} {Q : State → Prop} (C : Cx G RX7 cX7_lose 3 p s m args c) {S : St} {a0 : Int32} {o : Int32 × St} (h : f_X7_lose S a0 = some o) (K : KI 18 eM G A H0 cX7_lose p l e 2 s m args below meth c Q ((o).1) ((o).2)) : ∀ (H : Heap) (locs : List Loc) (ls : Array Slot), HM G A H0 S H locs → lv_has ls 3 [(0, .ref (adr G 0)), (1, .int a0)] → W p l e (rmK 2) s m args below meth c H locs 0 0 Q (F0 m 0 ls []) := by
  obtain ⟨hx, hb, -⟩ := id C
  intro H locs ls hW hl
  unfold f_X7_lose at h
  refine lv_iload_n hx hb dX7_lose_0 rfl (lv_at hl 1 rfl) ?_
  obtain ⟨r1, r1h, h⟩ := bd_some h
  refine x_backI hW (x_runS (As := [.int a0]) (rest := []) C hW (c_X7_isSheet l G (S := S) r1h H.size) cs_RX7_80 hl.1 rfl rfl ⟨by decide, by decide⟩ (Nat.le_of_ble_eq_true rfl) ⟨Nat.zero_le _, Nat.zero_le _⟩ dX7_lose_1) (fun H locs hW => ?_)
  refine z_if_ne (tgt := 9) hx hb dX7_lose_4 (by decide) (fun b4 => ?_) (fun b4 => ?_)
  · have h := it_t b4 h
    refine lv_aload_n hx hb dX7_lose_9 rfl (lv_at hl 0 rfl) ?_
    refine gf_RX7_9 C hW dX7_lose_10 ?_
    refine lv_iload_n hx hb dX7_lose_13 rfl (lv_at hl 1 rfl) ?_
    obtain ⟨g14, h⟩ := ck_some h
    refine x_iald C hW (k := 1) (n := 4) (by decide) (fun _ => rfl) g14 dX7_lose_14 ?_
    refine lv_bipush (v := (-9)) hx hb dX7_lose_15 (by decide) ?_
    refine lv_icmp_ne (tgt := 24) hx hb dX7_lose_17 (by decide) (fun b17 => ?_) (fun b17 => ?_)
    · have h := it_f b17 h
      refine lv_iconst (v := 1) hx hb dX7_lose_24 (by decide) ?_
      refine lv_istore_n (lv' := [(2, .int ((1 : Int32))), (0, .ref (adr G 0)), (1, .int a0)]) hx hb dX7_lose_25 rfl hl (by decide) rfl (fun ls hl => ?_)
      refine lv_aload_n hx hb dX7_lose_26 rfl (lv_at hl 1 rfl) ?_
      refine gf_RX7_9 C hW dX7_lose_27 ?_
      refine lv_iload_n hx hb dX7_lose_30 rfl (lv_at hl 2 rfl) ?_
      refine lv_bipush (v := (-9)) hx hb dX7_lose_31 (by decide) ?_
      obtain ⟨g33, h⟩ := ck_some h
      refine x_iast C hW (k := 1) (n := 4) (by decide) (fun _ => rfl) g33 dX7_lose_33 (fun H locs hW => ?_)
      refine lv_iload_n hx hb dX7_lose_34 rfl (lv_at hl 0 rfl) ?_
      obtain rfl := Option.some.inj h
      exact K _ _ _ _ dX7_lose_35 hW
    · have h := it_t b17 h
      refine lv_iconst (v := 0) hx hb dX7_lose_20 (by decide) ?_
      refine lv_goto (tgt := 25) hx hb dX7_lose_21 (by decide) ?_
      refine lv_istore_n (lv' := [(2, .int ((0 : Int32))), (0, .ref (adr G 0)), (1, .int a0)]) hx hb dX7_lose_25 rfl hl (by decide) rfl (fun ls hl => ?_)
      refine lv_aload_n hx hb dX7_lose_26 rfl (lv_at hl 1 rfl) ?_
      refine gf_RX7_9 C hW dX7_lose_27 ?_
      refine lv_iload_n hx hb dX7_lose_30 rfl (lv_at hl 2 rfl) ?_
      refine lv_bipush (v := (-9)) hx hb dX7_lose_31 (by decide) ?_
      obtain ⟨g33, h⟩ := ck_some h
      refine x_iast C hW (k := 1) (n := 4) (by decide) (fun _ => rfl) g33 dX7_lose_33 (fun H locs hW => ?_)
      refine lv_iload_n hx hb dX7_lose_34 rfl (lv_at hl 0 rfl) ?_
      obtain rfl := Option.some.inj h
      exact K _ _ _ _ dX7_lose_35 hW
  · have h := it_f b4 h
    refine lv_iconst (v := (-1)) hx hb dX7_lose_7 (by decide) ?_
    obtain rfl := Option.some.inj h
    exact K _ _ _ _ dX7_lose_8 hW
set_option maxRecDepth 100000 in
theorem c_X7_lose (l : Launch) (G : Geo) {S : St} {a0 : Int32} {o : Int32 × St} (h : f_X7_lose S a0 = some o) : MI 18 eM G l yX7_lose cX7_lose 3 (some .int) 2 [.ref (adr G 0), .int a0] S o.1 o.2 :=
  mI_of (by decide +kernel) (Nat.le_of_ble_eq_true rfl) (fun p e s m below meth c A H0 Q C K => w_f_X7_lose C h K)
def f_X7_many (S : St) (a0 : Int32) : Option (Int32) :=
  if a0 = 0 then (some (S 0 5)) else if a0 = 1 then (some (S 0 6)) else if a0 = 2 then (bd (f_X7_darkNow S) fun r47 => some r47) else if a0 = 3 then (some (S 0 7)) else if a0 = 4 then (some (S 0 24)) else (some ((-2 : Int32)))
set_option maxHeartbeats 4000000 in
set_option maxRecDepth 100000 in
theorem w_f_X7_many {G : Geo} {p : Program} {l : Launch} {e : Env} {s : State} {m : MethodId} {args : Array Value} {below : List Frame} {meth : Method} {c : Code} {A : Nat → Prop} {H0 : Heap} {Q : State → Prop} (C : Cx G RX7 cX7_many 2 p s m args c) {S : St} {a0 : Int32} {o : Int32} (h : f_X7_many S a0 = some o) (K : KI 18 eM G A H0 cX7_many p l e 1 s m args below meth c Q o S) : ∀ (H : Heap) (locs : List Loc) (ls : Array Slot), HM G A H0 S H locs → lv_has ls 2 [(0, .ref (adr G 0)), (1, .int a0)] → W p l e (rmK 1) s m args below meth c H locs 0 0 Q (F0 m 0 ls []) := by
  obtain ⟨hx, hb, -⟩ := id C
  intro H locs ls hW hl
  unfold f_X7_many at h
  refine lv_iload_n hx hb dX7_many_0 rfl (lv_at hl 1 rfl) ?_
  by_cases v1_0 : a0 = 0
  · have h := it_t v1_0 h
    refine lv_tableIn (off := 35) (tgt := 36) hx hb dX7_many_1 (by rw [v1_0]; decide) (by rw [v1_0]; decide) (by rw [v1_0]; rfl) (by decide) ?_
    refine lv_aload_n hx hb dX7_many_36 rfl (lv_at hl 0 rfl) ?_
    refine gf_RX7_71 C hW dX7_many_37 ?_
    obtain rfl := Option.some.inj h
    exact K _ _ _ _ dX7_many_40 hW
  · have h := it_f v1_0 h
    by_cases v1_1 : a0 = 1
    · have h := it_t v1_1 h
      refine lv_tableIn (off := 40) (tgt := 41) hx hb dX7_many_1 (by rw [v1_1]; decide) (by rw [v1_1]; decide) (by rw [v1_1]; rfl) (by decide) ?_
      refine lv_aload_n hx hb dX7_many_41 rfl (lv_at hl 0 rfl) ?_
      refine gf_RX7_74 C hW dX7_many_42 ?_
      obtain rfl := Option.some.inj h
      exact K _ _ _ _ dX7_many_45 hW
    · have h := it_f v1_1 h
      by_cases v1_2 : a0 = 2
      · have h := it_t v1_2 h
        refine lv_tableIn (off := 45) (tgt := 46) hx hb dX7_many_1 (by rw [v1_2]; decide) (by rw [v1_2]; decide) (by rw [v1_2]; rfl) (by decide) ?_
        refine lv_aload_n hx hb dX7_many_46 rfl (lv_at hl 0 rfl) ?_
        obtain ⟨r47, r47h, h⟩ := bd_some h
        refine x_backI hW (x_runV (As := []) (rest := []) C hW (c_X7_darkNow l G r47h H.size) cv_RX7_143 rv_X7 hl.1 rfl rfl ⟨by decide, by decide⟩ (Nat.le_of_ble_eq_true rfl) ⟨Nat.zero_le _, Nat.zero_le _⟩ dX7_many_47) (fun H locs hW => ?_)
        obtain rfl := Option.some.inj h
        exact K _ _ _ _ dX7_many_50 hW
      · have h := it_f v1_2 h
        by_cases v1_3 : a0 = 3
        · have h := it_t v1_3 h
          refine lv_tableIn (off := 50) (tgt := 51) hx hb dX7_many_1 (by rw [v1_3]; decide) (by rw [v1_3]; decide) (by rw [v1_3]; rfl) (by decide) ?_
          refine lv_aload_n hx hb dX7_many_51 rfl (lv_at hl 0 rfl) ?_
          refine gf_RX7_107 C hW dX7_many_52 ?_
          obtain rfl := Option.some.inj h
          exact K _ _ _ _ dX7_many_55 hW
        · have h := it_f v1_3 h
          by_cases v1_4 : a0 = 4
          · have h := it_t v1_4 h
            refine lv_tableIn (off := 55) (tgt := 56) hx hb dX7_many_1 (by rw [v1_4]; decide) (by rw [v1_4]; decide) (by rw [v1_4]; rfl) (by decide) ?_
            refine lv_aload_n hx hb dX7_many_56 rfl (lv_at hl 0 rfl) ?_
            refine gf_RX7_110 C hW dX7_many_57 ?_
            obtain rfl := Option.some.inj h
            exact K _ _ _ _ dX7_many_60 hW
          · have h := it_f v1_4 h
            have w1_0 := ne_i 0 0 (by decide) v1_0
            have w1_1 := ne_i 1 1 (by decide) v1_1
            have w1_2 := ne_i 2 2 (by decide) v1_2
            have w1_3 := ne_i 3 3 (by decide) v1_3
            have w1_4 := ne_i 4 4 (by decide) v1_4
            refine lv_tableOut (tgt := 61) hx hb dX7_many_1 (by omega) (by decide) ?_
            refine lv_bipush (v := (-2)) hx hb dX7_many_61 (by decide) ?_
            obtain rfl := Option.some.inj h
            exact K _ _ _ _ dX7_many_63 hW
set_option maxRecDepth 100000 in
theorem c_X7_many (l : Launch) (G : Geo) {S : St} {a0 : Int32} {o : Int32} (h : f_X7_many S a0 = some o) : MI 18 eM G l yX7_many cX7_many 2 (some .int) 1 [.ref (adr G 0), .int a0] S o S :=
  mI_of (by decide +kernel) (Nat.le_of_ble_eq_true rfl) (fun p e s m below meth c A H0 Q C K => w_f_X7_many C h K)
def i_X7_odds_34 (S : St) (x1 : Int32) (x2 : Int32) (x3 : Int32) (x4 : Int32) : Option ((Int32 × Int32) ⊕ (Int32 × Int32)) :=
  if x1 ≤ x4 then (some (.inr (x3, x4))) else (some (.inl (x3 * (S 0 6), x4 + (1 : Int32))))
set_option maxHeartbeats 4000000 in
set_option maxRecDepth 100000 in
theorem w_i_X7_odds_34 {G : Geo} {p : Program} {l : Launch} {e : Env} {s : State} {m : MethodId} {args : Array Value} {below : List Frame} {meth : Method} {c : Code} {A : Nat → Prop} {H0 : Heap} {Q : State → Prop} (C : Cx G RX7 cX7_odds 8 p s m args c) {S : St} {x1 : Int32} {x2 : Int32} {x3 : Int32} {x4 : Int32} {o : (Int32 × Int32) ⊕ (Int32 × Int32)} (h : i_X7_odds_34 S x1 x2 x3 x4 = some o) (Kn : ∀ q, o = .inl q → ∀ (H : Heap) (locs : List Loc) (ls : Array Slot), HM G A H0 S H locs → lv_has ls 8 [(0, .ref (adr G 0)), (1, .int x1), (2, .int x2), (3, .int (q.1)), (4, .int (q.2))] → W p l e (rmK 2) s m args below meth c H locs 0 0 Q (F0 m 34 ls [])) (Kt : ∀ q, o = .inr q → ∀ (H : Heap) (locs : List Loc) (ls : Array Slot), HM G A H0 S H locs → lv_has ls 8 [(0, .ref (adr G 0)), (1, .int x1), (2, .int x2), (3, .int (q.1))] → W p l e (rmK 2) s m args below meth c H locs 0 0 Q (F0 m 53 ls [])) : ∀ (H : Heap) (locs : List Loc) (ls : Array Slot), HM G A H0 S H locs → lv_has ls 8 [(0, .ref (adr G 0)), (1, .int x1), (2, .int x2), (3, .int x3), (4, .int x4)] → W p l e (rmK 2) s m args below meth c H locs 0 0 Q (F0 m 34 ls []) := by
  obtain ⟨hx, hb, -⟩ := id C
  intro H locs ls hW hl
  unfold i_X7_odds_34 at h
  refine lv_iload hx hb dX7_odds_34 (lv_at hl 4 rfl) ?_
  refine lv_iload_n hx hb dX7_odds_36 rfl (lv_at hl 1 rfl) ?_
  refine lv_icmp_ge (tgt := 53) hx hb dX7_odds_37 (by decide) (fun b37 => ?_) (fun b37 => ?_)
  · have h := it_t b37 h
    obtain rfl := Option.some.inj h
    exact Kt _ rfl _ _ _ hW (lv_sub hl [0, 1, 2, 3] rfl)
  · have h := it_f b37 h
    refine lv_iload_n hx hb dX7_odds_40 rfl (lv_at hl 3 rfl) ?_
    refine lv_aload_n hx hb dX7_odds_41 rfl (lv_at hl 0 rfl) ?_
    refine gf_RX7_74 C hW dX7_odds_42 ?_
    refine lv_imul hx hb dX7_odds_45 ?_
    refine lv_istore_n (lv' := [(3, .int (x3 * (S 0 6))), (0, .ref (adr G 0)), (1, .int x1), (2, .int x2), (4, .int x4)]) hx hb dX7_odds_46 rfl hl (by decide) rfl (fun ls hl => ?_)
    refine lv_iinc (v := (x4 + (1 : Int32))) (lv' := [(4, .int (x4 + (1 : Int32))), (3, .int (x3 * (S 0 6))), (0, .ref (adr G 0)), (1, .int x1), (2, .int x2)]) hx hb dX7_odds_47 hl (k := 4) rfl rfl (by decide) rfl (fun ls hl => ?_)
    refine lv_goto (tgt := 34) hx hb dX7_odds_50 (by decide) ?_
    obtain rfl := Option.some.inj h
    exact Kn _ rfl _ _ _ hW (lv_sub hl [2, 3, 4, 1, 0] rfl)
set_option maxHeartbeats 4000000 in
set_option maxRecDepth 100000 in
theorem l_i_X7_odds_34 {G : Geo} {p : Program} {l : Launch} {e : Env} {s : State} {m : MethodId} {args : Array Value} {below : List Frame} {meth : Method} {c : Code} {A : Nat → Prop} {H0 : Heap} {Q : State → Prop} (C : Cx G RX7 cX7_odds 8 p s m args c) {S : St} {x1 : Int32} {x2 : Int32} {n : Nat} {q0 : Int32 × Int32} {u : Int32 × Int32} (hq : iter (fun q : Int32 × Int32 => i_X7_odds_34 S x1 x2 q.1 q.2) n q0 = some u) (Kt : (fun q : Int32 × Int32 => ∀ (H : Heap) (locs : List Loc) (ls : Array Slot), HM G A H0 S H locs → lv_has ls 8 [(0, .ref (adr G 0)), (1, .int x1), (2, .int x2), (3, .int (q.1))] → W p l e (rmK 2) s m args below meth c H locs 0 0 Q (F0 m 53 ls [])) u) : (fun q : Int32 × Int32 => ∀ (H : Heap) (locs : List Loc) (ls : Array Slot), HM G A H0 S H locs → lv_has ls 8 [(0, .ref (adr G 0)), (1, .int x1), (2, .int x2), (3, .int (q.1)), (4, .int (q.2))] → W p l e (rmK 2) s m args below meth c H locs 0 0 Q (F0 m 34 ls [])) q0 :=
  iter_W (P := fun q : Int32 × Int32 => ∀ (H : Heap) (locs : List Loc) (ls : Array Slot), HM G A H0 S H locs → lv_has ls 8 [(0, .ref (adr G 0)), (1, .int x1), (2, .int x2), (3, .int (q.1)), (4, .int (q.2))] → W p l e (rmK 2) s m args below meth c H locs 0 0 Q (F0 m 34 ls [])) (K := fun q : Int32 × Int32 => ∀ (H : Heap) (locs : List Loc) (ls : Array Slot), HM G A H0 S H locs → lv_has ls 8 [(0, .ref (adr G 0)), (1, .int x1), (2, .int x2), (3, .int (q.1))] → W p l e (rmK 2) s m args below meth c H locs 0 0 Q (F0 m 53 ls [])) (fun q o hit Kn Kt => w_i_X7_odds_34 C  hit Kn Kt) n q0 u hq Kt
def i_X7_odds_76 (S : St) (x1 : Int32) (x2 : Int32) (x3 : Int32) (x4 : Int32) (x5 : Int32) (x6 : Int32) (x7 : Int32) : Option ((St × Int32 × Int32) ⊕ (St × Int32 × Int32)) :=
  if x1 ≤ x7 then (some (.inr (S, x6, x7))) else (ck (¬ (S 0 6) = 0) <| bd (f_X7_turnsAll S (rem32 x6 (S 0 6)) ((1 : Int32))) fun r91 => ck (¬ (r91 0 6) = 0) <| some (.inl (r91, x6 / (r91 0 6), x7 + (1 : Int32))))
set_option maxHeartbeats 4000000 in
set_option maxRecDepth 100000 in
theorem w_i_X7_odds_76 {G : Geo} {p : Program} {l : Launch} {e : Env} {s : State} {m : MethodId} {args : Array Value} {below : List Frame} {meth : Method} {c : Code} {A : Nat → Prop} {H0 : Heap} {Q : State → Prop} (C : Cx G RX7 cX7_odds 8 p s m args c) {S : St} {x1 : Int32} {x2 : Int32} {x3 : Int32} {x4 : Int32} {x5 : Int32} {x6 : Int32} {x7 : Int32} {o : (St × Int32 × Int32) ⊕ (St × Int32 × Int32)} (h : i_X7_odds_76 S x1 x2 x3 x4 x5 x6 x7 = some o) (Kn : ∀ q, o = .inl q → ∀ (H : Heap) (locs : List Loc) (ls : Array Slot), HM G A H0 q.1 H locs → lv_has ls 8 [(0, .ref (adr G 0)), (1, .int x1), (2, .int x2), (3, .int x3), (4, .int x4), (5, .int x5), (6, .int (q.2.1)), (7, .int (q.2.2))] → W p l e (rmK 2) s m args below meth c H locs 0 0 Q (F0 m 76 ls [])) (Kt : ∀ q, o = .inr q → ∀ (H : Heap) (locs : List Loc) (ls : Array Slot), HM G A H0 q.1 H locs → lv_has ls 8 [(0, .ref (adr G 0)), (1, .int x1), (2, .int x2), (3, .int x3), (4, .int x4), (5, .int x5)] → W p l e (rmK 2) s m args below meth c H locs 0 0 Q (F0 m 109 ls [])) : ∀ (H : Heap) (locs : List Loc) (ls : Array Slot), HM G A H0 S H locs → lv_has ls 8 [(0, .ref (adr G 0)), (1, .int x1), (2, .int x2), (3, .int x3), (4, .int x4), (5, .int x5), (6, .int x6), (7, .int x7)] → W p l e (rmK 2) s m args below meth c H locs 0 0 Q (F0 m 76 ls []) := by
  obtain ⟨hx, hb, -⟩ := id C
  intro H locs ls hW hl
  unfold i_X7_odds_76 at h
  refine lv_iload hx hb dX7_odds_76 (lv_at hl 7 rfl) ?_
  refine lv_iload_n hx hb dX7_odds_78 rfl (lv_at hl 1 rfl) ?_
  refine lv_icmp_ge (tgt := 109) hx hb dX7_odds_79 (by decide) (fun b79 => ?_) (fun b79 => ?_)
  · have h := it_t b79 h
    obtain rfl := Option.some.inj h
    exact Kt _ rfl _ _ _ hW (lv_sub hl [0, 1, 2, 3, 4, 5] rfl)
  · have h := it_f b79 h
    refine lv_aload_n hx hb dX7_odds_82 rfl (lv_at hl 0 rfl) ?_
    refine lv_iload hx hb dX7_odds_83 (lv_at hl 6 rfl) ?_
    refine lv_aload_n hx hb dX7_odds_85 rfl (lv_at hl 0 rfl) ?_
    refine gf_RX7_74 C hW dX7_odds_86 ?_
    obtain ⟨g89, h⟩ := ck_some h
    refine lv_irem hx hb dX7_odds_89 g89 ?_
    refine lv_iconst (v := 1) hx hb dX7_odds_90 (by decide) ?_
    obtain ⟨r91, r91h, h⟩ := bd_some h
    refine x_backV hW (x_runV (As := [.int (rem32 x6 (S 0 6)), .int ((1 : Int32))]) (rest := []) C hW (c_X7_turnsAll l G r91h H.size) cv_RX7_139 rv_X7 hl.1 rfl rfl ⟨by decide, by decide⟩ (Nat.le_of_ble_eq_true rfl) ⟨Nat.zero_le _, Nat.zero_le _⟩ dX7_odds_91) (fun H locs hW => ?_)
    refine lv_iload hx hb dX7_odds_94 (lv_at hl 6 rfl) ?_
    refine lv_aload_n hx hb dX7_odds_96 rfl (lv_at hl 0 rfl) ?_
    refine gf_RX7_74 C hW dX7_odds_97 ?_
    obtain ⟨g100, h⟩ := ck_some h
    refine lv_idiv hx hb dX7_odds_100 g100 ?_
    refine lv_istore (lv' := [(6, .int (x6 / (r91 0 6))), (0, .ref (adr G 0)), (1, .int x1), (2, .int x2), (3, .int x3), (4, .int x4), (5, .int x5), (7, .int x7)]) hx hb dX7_odds_101 hl (by decide) rfl (fun ls hl => ?_)
    refine lv_iinc (v := (x7 + (1 : Int32))) (lv' := [(7, .int (x7 + (1 : Int32))), (6, .int (x6 / (r91 0 6))), (0, .ref (adr G 0)), (1, .int x1), (2, .int x2), (3, .int x3), (4, .int x4), (5, .int x5)]) hx hb dX7_odds_103 hl (k := 7) rfl rfl (by decide) rfl (fun ls hl => ?_)
    refine lv_goto (tgt := 76) hx hb dX7_odds_106 (by decide) ?_
    obtain rfl := Option.some.inj h
    exact Kn _ rfl _ _ _ hW (lv_sub hl [2, 3, 4, 5, 6, 7, 1, 0] rfl)
set_option maxHeartbeats 4000000 in
set_option maxRecDepth 100000 in
theorem l_i_X7_odds_76 {G : Geo} {p : Program} {l : Launch} {e : Env} {s : State} {m : MethodId} {args : Array Value} {below : List Frame} {meth : Method} {c : Code} {A : Nat → Prop} {H0 : Heap} {Q : State → Prop} (C : Cx G RX7 cX7_odds 8 p s m args c) {x1 : Int32} {x2 : Int32} {x3 : Int32} {x4 : Int32} {x5 : Int32} {n : Nat} {q0 : St × Int32 × Int32} {u : St × Int32 × Int32} (hq : iter (fun q : St × Int32 × Int32 => i_X7_odds_76 q.1 x1 x2 x3 x4 x5 q.2.1 q.2.2) n q0 = some u) (Kt : (fun q : St × Int32 × Int32 => ∀ (H : Heap) (locs : List Loc) (ls : Array Slot), HM G A H0 q.1 H locs → lv_has ls 8 [(0, .ref (adr G 0)), (1, .int x1), (2, .int x2), (3, .int x3), (4, .int x4), (5, .int x5)] → W p l e (rmK 2) s m args below meth c H locs 0 0 Q (F0 m 109 ls [])) u) : (fun q : St × Int32 × Int32 => ∀ (H : Heap) (locs : List Loc) (ls : Array Slot), HM G A H0 q.1 H locs → lv_has ls 8 [(0, .ref (adr G 0)), (1, .int x1), (2, .int x2), (3, .int x3), (4, .int x4), (5, .int x5), (6, .int (q.2.1)), (7, .int (q.2.2))] → W p l e (rmK 2) s m args below meth c H locs 0 0 Q (F0 m 76 ls [])) q0 :=
  iter_W (P := fun q : St × Int32 × Int32 => ∀ (H : Heap) (locs : List Loc) (ls : Array Slot), HM G A H0 q.1 H locs → lv_has ls 8 [(0, .ref (adr G 0)), (1, .int x1), (2, .int x2), (3, .int x3), (4, .int x4), (5, .int x5), (6, .int (q.2.1)), (7, .int (q.2.2))] → W p l e (rmK 2) s m args below meth c H locs 0 0 Q (F0 m 76 ls [])) (K := fun q : St × Int32 × Int32 => ∀ (H : Heap) (locs : List Loc) (ls : Array Slot), HM G A H0 q.1 H locs → lv_has ls 8 [(0, .ref (adr G 0)), (1, .int x1), (2, .int x2), (3, .int x3), (4, .int x4), (5, .int x5)] → W p l e (rmK 2) s m args below meth c H locs 0 0 Q (F0 m 109 ls [])) (fun q o hit Kn Kt => w_i_X7_odds_76 C  hit Kn Kt) n q0 u hq Kt
def i_X7_odds_63 (S : St) (x1 : Int32) (x2 : Int32) (x3 : Int32) (x4 : Int32) (x5 : Int32) : Option ((St × Int32 × Int32) ⊕ (St × Int32 × Int32)) :=
  if x3 ≤ x5 then (some (.inr (S, x4, x5))) else (bd (iter (fun q => i_X7_odds_76 q.1 x1 x2 x3 x4 x5 q.2.1 q.2.2) BIG (S, x5, (0 : Int32))) fun q76 => bd (f_X7_darkNow q76.1) fun r112 => if r112 = (q76.1 0 5) then (bd (f_X7_putBack q76.1) fun r131 => some (.inl (r131, x4 + ((1 : Int32)), x5 + (1 : Int32)))) else (bd (f_X7_putBack q76.1) fun r131 => some (.inl (r131, x4 + ((0 : Int32)), x5 + (1 : Int32)))))
set_option maxHeartbeats 4000000 in
set_option maxRecDepth 100000 in
theorem w_i_X7_odds_63 {G : Geo} {p : Program} {l : Launch} {e : Env} {s : State} {m : MethodId} {args : Array Value} {below : List Frame} {meth : Method} {c : Code} {A : Nat → Prop} {H0 : Heap} {Q : State → Prop} (C : Cx G RX7 cX7_odds 8 p s m args c) {S : St} {x1 : Int32} {x2 : Int32} {x3 : Int32} {x4 : Int32} {x5 : Int32} {o : (St × Int32 × Int32) ⊕ (St × Int32 × Int32)} (h : i_X7_odds_63 S x1 x2 x3 x4 x5 = some o) (Kn : ∀ q, o = .inl q → ∀ (H : Heap) (locs : List Loc) (ls : Array Slot), HM G A H0 q.1 H locs → lv_has ls 8 [(0, .ref (adr G 0)), (1, .int x1), (2, .int x2), (3, .int x3), (4, .int (q.2.1)), (5, .int (q.2.2))] → W p l e (rmK 2) s m args below meth c H locs 0 0 Q (F0 m 63 ls [])) (Kt : ∀ q, o = .inr q → ∀ (H : Heap) (locs : List Loc) (ls : Array Slot), HM G A H0 q.1 H locs → lv_has ls 8 [(2, .int x2), (3, .int x3), (4, .int (q.2.1))] → W p l e (rmK 2) s m args below meth c H locs 0 0 Q (F0 m 140 ls [])) : ∀ (H : Heap) (locs : List Loc) (ls : Array Slot), HM G A H0 S H locs → lv_has ls 8 [(0, .ref (adr G 0)), (1, .int x1), (2, .int x2), (3, .int x3), (4, .int x4), (5, .int x5)] → W p l e (rmK 2) s m args below meth c H locs 0 0 Q (F0 m 63 ls []) := by
  obtain ⟨hx, hb, -⟩ := id C
  intro H locs ls hW hl
  unfold i_X7_odds_63 at h
  refine lv_iload hx hb dX7_odds_63 (lv_at hl 5 rfl) ?_
  refine lv_iload_n hx hb dX7_odds_65 rfl (lv_at hl 3 rfl) ?_
  refine lv_icmp_ge (tgt := 140) hx hb dX7_odds_66 (by decide) (fun b66 => ?_) (fun b66 => ?_)
  · have h := it_t b66 h
    obtain rfl := Option.some.inj h
    exact Kt _ rfl _ _ _ hW (lv_sub hl [2, 3, 4] rfl)
  · have h := it_f b66 h
    refine lv_iload hx hb dX7_odds_69 (lv_at hl 5 rfl) ?_
    refine lv_istore (lv' := [(6, .int x5), (0, .ref (adr G 0)), (1, .int x1), (2, .int x2), (3, .int x3), (4, .int x4), (5, .int x5)]) hx hb dX7_odds_71 hl (by decide) rfl (fun ls hl => ?_)
    refine lv_iconst (v := 0) hx hb dX7_odds_73 (by decide) ?_
    refine lv_istore (lv' := [(7, .int ((0 : Int32))), (6, .int x5), (0, .ref (adr G 0)), (1, .int x1), (2, .int x2), (3, .int x3), (4, .int x4), (5, .int x5)]) hx hb dX7_odds_74 hl (by decide) rfl (fun ls hl => ?_)
    obtain ⟨q76, q76h, h⟩ := bd_some h
    refine l_i_X7_odds_76 C  q76h ?_ _ _ _ hW (lv_sub hl [2, 3, 4, 5, 6, 7, 1, 0] rfl)
    intro H locs ls hW hl
    refine lv_iload hx hb dX7_odds_109 (lv_at hl 4 rfl) ?_
    refine lv_aload_n hx hb dX7_odds_111 rfl (lv_at hl 0 rfl) ?_
    obtain ⟨r112, r112h, h⟩ := bd_some h
    refine x_backI hW (x_runV (As := []) (rest := [.int x4]) C hW (c_X7_darkNow l G r112h H.size) cv_RX7_143 rv_X7 hl.1 rfl rfl ⟨by decide, by decide⟩ (Nat.le_of_ble_eq_true rfl) ⟨Nat.zero_le _, Nat.zero_le _⟩ dX7_odds_112) (fun H locs hW => ?_)
    refine lv_aload_n hx hb dX7_odds_115 rfl (lv_at hl 0 rfl) ?_
    refine gf_RX7_71 C hW dX7_odds_116 ?_
    refine lv_icmp_ne (tgt := 126) hx hb dX7_odds_119 (by decide) (fun b119 => ?_) (fun b119 => ?_)
    · have h := it_f b119 h
      refine lv_iconst (v := 0) hx hb dX7_odds_126 (by decide) ?_
      refine lv_iadd hx hb dX7_odds_127 ?_
      refine lv_istore (lv' := [(4, .int (x4 + ((0 : Int32)))), (0, .ref (adr G 0)), (1, .int x1), (2, .int x2), (3, .int x3), (5, .int x5)]) hx hb dX7_odds_128 hl (by decide) rfl (fun ls hl => ?_)
      refine lv_aload_n hx hb dX7_odds_130 rfl (lv_at hl 1 rfl) ?_
      obtain ⟨r131, r131h, h⟩ := bd_some h
      refine x_backV hW (x_runV (As := []) (rest := []) C hW (c_X7_putBack l G r131h H.size) cv_RX7_169 rv_X7 hl.1 rfl rfl ⟨by decide, by decide⟩ (Nat.le_of_ble_eq_true rfl) ⟨Nat.zero_le _, Nat.zero_le _⟩ dX7_odds_131) (fun H locs hW => ?_)
      refine lv_iinc (v := (x5 + (1 : Int32))) (lv' := [(5, .int (x5 + (1 : Int32))), (4, .int (x4 + ((0 : Int32)))), (0, .ref (adr G 0)), (1, .int x1), (2, .int x2), (3, .int x3)]) hx hb dX7_odds_134 hl (k := 5) rfl rfl (by decide) rfl (fun ls hl => ?_)
      refine lv_goto (tgt := 63) hx hb dX7_odds_137 (by decide) ?_
      obtain rfl := Option.some.inj h
      exact Kn _ rfl _ _ _ hW (lv_sub hl [2, 3, 4, 5, 1, 0] rfl)
    · have h := it_t b119 h
      refine lv_iconst (v := 1) hx hb dX7_odds_122 (by decide) ?_
      refine lv_goto (tgt := 127) hx hb dX7_odds_123 (by decide) ?_
      refine lv_iadd hx hb dX7_odds_127 ?_
      refine lv_istore (lv' := [(4, .int (x4 + ((1 : Int32)))), (0, .ref (adr G 0)), (1, .int x1), (2, .int x2), (3, .int x3), (5, .int x5)]) hx hb dX7_odds_128 hl (by decide) rfl (fun ls hl => ?_)
      refine lv_aload_n hx hb dX7_odds_130 rfl (lv_at hl 1 rfl) ?_
      obtain ⟨r131, r131h, h⟩ := bd_some h
      refine x_backV hW (x_runV (As := []) (rest := []) C hW (c_X7_putBack l G r131h H.size) cv_RX7_169 rv_X7 hl.1 rfl rfl ⟨by decide, by decide⟩ (Nat.le_of_ble_eq_true rfl) ⟨Nat.zero_le _, Nat.zero_le _⟩ dX7_odds_131) (fun H locs hW => ?_)
      refine lv_iinc (v := (x5 + (1 : Int32))) (lv' := [(5, .int (x5 + (1 : Int32))), (4, .int (x4 + ((1 : Int32)))), (0, .ref (adr G 0)), (1, .int x1), (2, .int x2), (3, .int x3)]) hx hb dX7_odds_134 hl (k := 5) rfl rfl (by decide) rfl (fun ls hl => ?_)
      refine lv_goto (tgt := 63) hx hb dX7_odds_137 (by decide) ?_
      obtain rfl := Option.some.inj h
      exact Kn _ rfl _ _ _ hW (lv_sub hl [2, 3, 4, 5, 1, 0] rfl)
set_option maxHeartbeats 4000000 in
set_option maxRecDepth 100000 in
theorem l_i_X7_odds_63 {G : Geo} {p : Program} {l : Launch} {e : Env} {s : State} {m : MethodId} {args : Array Value} {below : List Frame} {meth : Method} {c : Code} {A : Nat → Prop} {H0 : Heap} {Q : State → Prop} (C : Cx G RX7 cX7_odds 8 p s m args c) {x1 : Int32} {x2 : Int32} {x3 : Int32} {n : Nat} {q0 : St × Int32 × Int32} {u : St × Int32 × Int32} (hq : iter (fun q : St × Int32 × Int32 => i_X7_odds_63 q.1 x1 x2 x3 q.2.1 q.2.2) n q0 = some u) (Kt : (fun q : St × Int32 × Int32 => ∀ (H : Heap) (locs : List Loc) (ls : Array Slot), HM G A H0 q.1 H locs → lv_has ls 8 [(2, .int x2), (3, .int x3), (4, .int (q.2.1))] → W p l e (rmK 2) s m args below meth c H locs 0 0 Q (F0 m 140 ls [])) u) : (fun q : St × Int32 × Int32 => ∀ (H : Heap) (locs : List Loc) (ls : Array Slot), HM G A H0 q.1 H locs → lv_has ls 8 [(0, .ref (adr G 0)), (1, .int x1), (2, .int x2), (3, .int x3), (4, .int (q.2.1)), (5, .int (q.2.2))] → W p l e (rmK 2) s m args below meth c H locs 0 0 Q (F0 m 63 ls [])) q0 :=
  iter_W (P := fun q : St × Int32 × Int32 => ∀ (H : Heap) (locs : List Loc) (ls : Array Slot), HM G A H0 q.1 H locs → lv_has ls 8 [(0, .ref (adr G 0)), (1, .int x1), (2, .int x2), (3, .int x3), (4, .int (q.2.1)), (5, .int (q.2.2))] → W p l e (rmK 2) s m args below meth c H locs 0 0 Q (F0 m 63 ls [])) (K := fun q : St × Int32 × Int32 => ∀ (H : Heap) (locs : List Loc) (ls : Array Slot), HM G A H0 q.1 H locs → lv_has ls 8 [(2, .int x2), (3, .int x3), (4, .int (q.2.1))] → W p l e (rmK 2) s m args below meth c H locs 0 0 Q (F0 m 140 ls [])) (fun q o hit Kn Kt => w_i_X7_odds_63 C  hit Kn Kt) n q0 u hq Kt
def f_X7_odds (S : St) (a0 : Int32) (a1 : Int32) : Option (Int64 × St) :=
  bd (f_X7_within a0 ((0 : Int32)) ((4 : Int32))) fun r3 => if r3 = false then (some ((-9223372036854775808 : Int64), S)) else (bd (f_X7_within a1 ((0 : Int32)) ((1 : Int32))) fun r12 => if r12 = false then (some ((-9223372036854775808 : Int64), S)) else (if (S 0 5) = 0 then (some ((-9223372036854775808 : Int64), S)) else (bd (iter (fun q => i_X7_odds_34 S a0 a1 q.1 q.2) BIG ((1 : Int32), (0 : Int32))) fun q34 => bd (f_X7_keep S) fun r57 => bd (iter (fun q => i_X7_odds_63 q.1 a0 a1 q34.1 q.2.1 q.2.2) BIG (r57, (0 : Int32), (0 : Int32))) fun q63 => bd (f_X7_inLeastTerms q63.2.1.toInt64 q34.1.toInt64 a1) fun r146 => some (r146, q63.1))))
set_option maxHeartbeats 4000000 in
set_option maxRecDepth 100000 in
theorem w_f_X7_odds {G : Geo} {p : Program} {l : Launch} {e : Env} {s : State} {m : MethodId} {args : Array Value} {below : List Frame} {meth : Method} {c : Code} {A : Nat → Prop} {H0 : Heap} {Q : State → Prop} (C : Cx G RX7 cX7_odds 8 p s m args c) {S : St} {a0 : Int32} {a1 : Int32} {o : Int64 × St} (h : f_X7_odds S a0 a1 = some o) (K : KL 18 eM G A H0 cX7_odds p l e 2 s m args below meth c Q ((o).1) ((o).2)) : ∀ (H : Heap) (locs : List Loc) (ls : Array Slot), HM G A H0 S H locs → lv_has ls 8 [(0, .ref (adr G 0)), (1, .int a0), (2, .int a1)] → W p l e (rmK 2) s m args below meth c H locs 0 0 Q (F0 m 0 ls []) := by
  obtain ⟨hx, hb, -⟩ := id C
  intro H locs ls hW hl
  unfold f_X7_odds at h
  refine lv_iload_n hx hb dX7_odds_0 rfl (lv_at hl 1 rfl) ?_
  refine lv_iconst (v := 0) hx hb dX7_odds_1 (by decide) ?_
  refine lv_iconst (v := 4) hx hb dX7_odds_2 (by decide) ?_
  obtain ⟨r3, r3h, h⟩ := bd_some h
  refine x_backI hW (x_runS (As := [.int a0, .int ((0 : Int32)), .int ((4 : Int32))]) (rest := []) C hW (c_X7_within l G (S := S) r3h H.size) cs_RX7_67 hl.1 rfl rfl ⟨by decide, by decide⟩ (Nat.le_of_ble_eq_true rfl) ⟨Nat.zero_le _, Nat.zero_le _⟩ dX7_odds_3) (fun H locs hW => ?_)
  refine z_if_eq (tgt := 25) hx hb dX7_odds_6 (by decide) (fun b6 => ?_) (fun b6 => ?_)
  · have h := it_t b6 h
    refine lv_ldc2 (v := (-9223372036854775808)) hx hb C.2.2.2.1 (C.2.2.2.2.1 _ uKL_RX7_65) dX7_odds_25 ?_
    obtain rfl := Option.some.inj h
    exact K _ _ _ _ dX7_odds_28 hW
  · have h := it_f b6 h
    refine lv_iload_n hx hb dX7_odds_9 rfl (lv_at hl 2 rfl) ?_
    refine lv_iconst (v := 0) hx hb dX7_odds_10 (by decide) ?_
    refine lv_iconst (v := 1) hx hb dX7_odds_11 (by decide) ?_
    obtain ⟨r12, r12h, h⟩ := bd_some h
    refine x_backI hW (x_runS (As := [.int a1, .int ((0 : Int32)), .int ((1 : Int32))]) (rest := []) C hW (c_X7_within l G (S := S) r12h H.size) cs_RX7_67 hl.1 rfl rfl ⟨by decide, by decide⟩ (Nat.le_of_ble_eq_true rfl) ⟨Nat.zero_le _, Nat.zero_le _⟩ dX7_odds_12) (fun H locs hW => ?_)
    refine z_if_eq (tgt := 25) hx hb dX7_odds_15 (by decide) (fun b15 => ?_) (fun b15 => ?_)
    · have h := it_t b15 h
      refine lv_ldc2 (v := (-9223372036854775808)) hx hb C.2.2.2.1 (C.2.2.2.2.1 _ uKL_RX7_65) dX7_odds_25 ?_
      obtain rfl := Option.some.inj h
      exact K _ _ _ _ dX7_odds_28 hW
    · have h := it_f b15 h
      refine lv_aload_n hx hb dX7_odds_18 rfl (lv_at hl 0 rfl) ?_
      refine gf_RX7_71 C hW dX7_odds_19 ?_
      refine lv_if_ne (tgt := 29) hx hb dX7_odds_22 (by decide) (fun b22 => ?_) (fun b22 => ?_)
      · have h := it_f b22 h
        refine lv_iconst (v := 1) hx hb dX7_odds_29 (by decide) ?_
        refine lv_istore_n (lv' := [(3, .int ((1 : Int32))), (0, .ref (adr G 0)), (1, .int a0), (2, .int a1)]) hx hb dX7_odds_30 rfl hl (by decide) rfl (fun ls hl => ?_)
        refine lv_iconst (v := 0) hx hb dX7_odds_31 (by decide) ?_
        refine lv_istore (lv' := [(4, .int ((0 : Int32))), (3, .int ((1 : Int32))), (0, .ref (adr G 0)), (1, .int a0), (2, .int a1)]) hx hb dX7_odds_32 hl (by decide) rfl (fun ls hl => ?_)
        obtain ⟨q34, q34h, h⟩ := bd_some h
        refine l_i_X7_odds_34 C  q34h ?_ _ _ _ hW (lv_sub hl [2, 3, 4, 1, 0] rfl)
        intro H locs ls hW hl
        refine lv_iconst (v := 0) hx hb dX7_odds_53 (by decide) ?_
        refine lv_istore (lv' := [(4, .int ((0 : Int32))), (0, .ref (adr G 0)), (1, .int a0), (2, .int a1), (3, .int (q34.1))]) hx hb dX7_odds_54 hl (by decide) rfl (fun ls hl => ?_)
        refine lv_aload_n hx hb dX7_odds_56 rfl (lv_at hl 1 rfl) ?_
        obtain ⟨r57, r57h, h⟩ := bd_some h
        refine x_backV hW (x_runV (As := []) (rest := []) C hW (c_X7_keep l G r57h H.size) cv_RX7_160 rv_X7 hl.1 rfl rfl ⟨by decide, by decide⟩ (Nat.le_of_ble_eq_true rfl) ⟨Nat.zero_le _, Nat.zero_le _⟩ dX7_odds_57) (fun H locs hW => ?_)
        refine lv_iconst (v := 0) hx hb dX7_odds_60 (by decide) ?_
        refine lv_istore (lv' := [(5, .int ((0 : Int32))), (4, .int ((0 : Int32))), (0, .ref (adr G 0)), (1, .int a0), (2, .int a1), (3, .int (q34.1))]) hx hb dX7_odds_61 hl (by decide) rfl (fun ls hl => ?_)
        obtain ⟨q63, q63h, h⟩ := bd_some h
        refine l_i_X7_odds_63 C  q63h ?_ _ _ _ hW (lv_sub hl [2, 3, 4, 5, 1, 0] rfl)
        intro H locs ls hW hl
        refine lv_iload hx hb dX7_odds_140 (lv_at hl 2 rfl) ?_
        refine lv_i2l hx hb dX7_odds_142 rfl ?_
        refine lv_iload_n hx hb dX7_odds_143 rfl (lv_at hl 1 rfl) ?_
        refine lv_i2l hx hb dX7_odds_144 rfl ?_
        refine lv_iload_n hx hb dX7_odds_145 rfl (lv_at hl 0 rfl) ?_
        obtain ⟨r146, r146h, h⟩ := bd_some h
        refine x_backL hW (x_runS (As := [.long q63.2.1.toInt64, .long q34.1.toInt64, .int a1]) (rest := []) C hW (c_X7_inLeastTerms l G (S := q63.1) r146h H.size) cs_RX7_198 hl.1 rfl rfl ⟨by decide, by decide⟩ (Nat.le_of_ble_eq_true rfl) ⟨Nat.zero_le _, Nat.zero_le _⟩ dX7_odds_146) (fun H locs hW => ?_)
        obtain rfl := Option.some.inj h
        exact K _ _ _ _ dX7_odds_149 hW
      · have h := it_t b22 h
        refine lv_ldc2 (v := (-9223372036854775808)) hx hb C.2.2.2.1 (C.2.2.2.2.1 _ uKL_RX7_65) dX7_odds_25 ?_
        obtain rfl := Option.some.inj h
        exact K _ _ _ _ dX7_odds_28 hW
set_option maxRecDepth 100000 in
theorem c_X7_odds (l : Launch) (G : Geo) {S : St} {a0 : Int32} {a1 : Int32} {o : Int64 × St} (h : f_X7_odds S a0 a1 = some o) : ML 18 eM G l yX7_odds cX7_odds 8 (some .long) 2 [.ref (adr G 0), .int a0, .int a1] S o.1 o.2 :=
  mL_of (by decide +kernel) (Nat.le_of_ble_eq_true rfl) (fun p e s m below meth c A H0 Q C K => w_f_X7_odds C h K)
def i_X7_wiredTo_4 (S : St) (x1 : Int32) (x2 : Int32) (x3 : Int32) : Option ((Int32 × Int32) ⊕ (Int32 × Int32)) :=
  if (S 0 6) ≤ x3 then (some (.inr (x2, x3))) else (ck (okx x3 5) <| bd (f_X7_isOf (S 8 (ix x3)) x1) fun r20 => if r20 = false then (some (.inl (x2 ||| ((0 : Int32)), x3 + (1 : Int32)))) else (some (.inl (x2 ||| (shl32 ((1 : Int32)) x3), x3 + (1 : Int32)))))
set_option maxHeartbeats 4000000 in
set_option maxRecDepth 100000 in
theorem w_i_X7_wiredTo_4 {G : Geo} {p : Program} {l : Launch} {e : Env} {s : State} {m : MethodId} {args : Array Value} {below : List Frame} {meth : Method} {c : Code} {A : Nat → Prop} {H0 : Heap} {Q : State → Prop} (C : Cx G RX7 cX7_wiredTo 4 p s m args c) {S : St} {x1 : Int32} {x2 : Int32} {x3 : Int32} {o : (Int32 × Int32) ⊕ (Int32 × Int32)} (h : i_X7_wiredTo_4 S x1 x2 x3 = some o) (Kn : ∀ q, o = .inl q → ∀ (H : Heap) (locs : List Loc) (ls : Array Slot), HM G A H0 S H locs → lv_has ls 4 [(0, .ref (adr G 0)), (1, .int x1), (2, .int (q.1)), (3, .int (q.2))] → W p l e (rmK 1) s m args below meth c H locs 0 0 Q (F0 m 4 ls [])) (Kt : ∀ q, o = .inr q → ∀ (H : Heap) (locs : List Loc) (ls : Array Slot), HM G A H0 S H locs → lv_has ls 4 [(2, .int (q.1))] → W p l e (rmK 1) s m args below meth c H locs 0 0 Q (F0 m 41 ls [])) : ∀ (H : Heap) (locs : List Loc) (ls : Array Slot), HM G A H0 S H locs → lv_has ls 4 [(0, .ref (adr G 0)), (1, .int x1), (2, .int x2), (3, .int x3)] → W p l e (rmK 1) s m args below meth c H locs 0 0 Q (F0 m 4 ls []) := by
  obtain ⟨hx, hb, -⟩ := id C
  intro H locs ls hW hl
  unfold i_X7_wiredTo_4 at h
  refine lv_iload_n hx hb dX7_wiredTo_4 rfl (lv_at hl 3 rfl) ?_
  refine lv_aload_n hx hb dX7_wiredTo_5 rfl (lv_at hl 0 rfl) ?_
  refine gf_RX7_74 C hW dX7_wiredTo_6 ?_
  refine lv_icmp_ge (tgt := 41) hx hb dX7_wiredTo_9 (by decide) (fun b9 => ?_) (fun b9 => ?_)
  · have h := it_t b9 h
    obtain rfl := Option.some.inj h
    exact Kt _ rfl _ _ _ hW (lv_sub hl [2] rfl)
  · have h := it_f b9 h
    refine lv_iload_n hx hb dX7_wiredTo_12 rfl (lv_at hl 2 rfl) ?_
    refine lv_aload_n hx hb dX7_wiredTo_13 rfl (lv_at hl 0 rfl) ?_
    refine gf_RX7_31 C hW dX7_wiredTo_14 ?_
    refine lv_iload_n hx hb dX7_wiredTo_17 rfl (lv_at hl 3 rfl) ?_
    obtain ⟨g18, h⟩ := ck_some h
    refine x_iald C hW (k := 8) (n := 5) (by decide) (fun _ => rfl) g18 dX7_wiredTo_18 ?_
    refine lv_iload_n hx hb dX7_wiredTo_19 rfl (lv_at hl 1 rfl) ?_
    obtain ⟨r20, r20h, h⟩ := bd_some h
    refine x_backI hW (x_runS (As := [.int (S 8 (ix x3)), .int x1]) (rest := [.int x2]) C hW (c_X7_isOf l G (S := S) r20h H.size) cs_RX7_124 hl.1 rfl rfl ⟨by decide, by decide⟩ (Nat.le_of_ble_eq_true rfl) ⟨Nat.zero_le _, Nat.zero_le _⟩ dX7_wiredTo_20) (fun H locs hW => ?_)
    refine z_if_eq (tgt := 32) hx hb dX7_wiredTo_23 (by decide) (fun b23 => ?_) (fun b23 => ?_)
    · have h := it_t b23 h
      refine lv_iconst (v := 0) hx hb dX7_wiredTo_32 (by decide) ?_
      refine lv_ior hx hb dX7_wiredTo_33 ?_
      refine lv_istore_n (lv' := [(2, .int (x2 ||| ((0 : Int32)))), (0, .ref (adr G 0)), (1, .int x1), (3, .int x3)]) hx hb dX7_wiredTo_34 rfl hl (by decide) rfl (fun ls hl => ?_)
      refine lv_iinc (v := (x3 + (1 : Int32))) (lv' := [(3, .int (x3 + (1 : Int32))), (2, .int (x2 ||| ((0 : Int32)))), (0, .ref (adr G 0)), (1, .int x1)]) hx hb dX7_wiredTo_35 hl (k := 3) rfl rfl (by decide) rfl (fun ls hl => ?_)
      refine lv_goto (tgt := 4) hx hb dX7_wiredTo_38 (by decide) ?_
      obtain rfl := Option.some.inj h
      exact Kn _ rfl _ _ _ hW (lv_sub hl [2, 3, 1, 0] rfl)
    · have h := it_f b23 h
      refine lv_iconst (v := 1) hx hb dX7_wiredTo_26 (by decide) ?_
      refine lv_iload_n hx hb dX7_wiredTo_27 rfl (lv_at hl 3 rfl) ?_
      refine lv_ishl hx hb dX7_wiredTo_28 ?_
      refine lv_goto (tgt := 33) hx hb dX7_wiredTo_29 (by decide) ?_
      refine lv_ior hx hb dX7_wiredTo_33 ?_
      refine lv_istore_n (lv' := [(2, .int (x2 ||| (shl32 ((1 : Int32)) x3))), (0, .ref (adr G 0)), (1, .int x1), (3, .int x3)]) hx hb dX7_wiredTo_34 rfl hl (by decide) rfl (fun ls hl => ?_)
      refine lv_iinc (v := (x3 + (1 : Int32))) (lv' := [(3, .int (x3 + (1 : Int32))), (2, .int (x2 ||| (shl32 ((1 : Int32)) x3))), (0, .ref (adr G 0)), (1, .int x1)]) hx hb dX7_wiredTo_35 hl (k := 3) rfl rfl (by decide) rfl (fun ls hl => ?_)
      refine lv_goto (tgt := 4) hx hb dX7_wiredTo_38 (by decide) ?_
      obtain rfl := Option.some.inj h
      exact Kn _ rfl _ _ _ hW (lv_sub hl [2, 3, 1, 0] rfl)
set_option maxHeartbeats 4000000 in
set_option maxRecDepth 100000 in
theorem l_i_X7_wiredTo_4 {G : Geo} {p : Program} {l : Launch} {e : Env} {s : State} {m : MethodId} {args : Array Value} {below : List Frame} {meth : Method} {c : Code} {A : Nat → Prop} {H0 : Heap} {Q : State → Prop} (C : Cx G RX7 cX7_wiredTo 4 p s m args c) {S : St} {x1 : Int32} {n : Nat} {q0 : Int32 × Int32} {u : Int32 × Int32} (hq : iter (fun q : Int32 × Int32 => i_X7_wiredTo_4 S x1 q.1 q.2) n q0 = some u) (Kt : (fun q : Int32 × Int32 => ∀ (H : Heap) (locs : List Loc) (ls : Array Slot), HM G A H0 S H locs → lv_has ls 4 [(2, .int (q.1))] → W p l e (rmK 1) s m args below meth c H locs 0 0 Q (F0 m 41 ls [])) u) : (fun q : Int32 × Int32 => ∀ (H : Heap) (locs : List Loc) (ls : Array Slot), HM G A H0 S H locs → lv_has ls 4 [(0, .ref (adr G 0)), (1, .int x1), (2, .int (q.1)), (3, .int (q.2))] → W p l e (rmK 1) s m args below meth c H locs 0 0 Q (F0 m 4 ls [])) q0 :=
  iter_W (P := fun q : Int32 × Int32 => ∀ (H : Heap) (locs : List Loc) (ls : Array Slot), HM G A H0 S H locs → lv_has ls 4 [(0, .ref (adr G 0)), (1, .int x1), (2, .int (q.1)), (3, .int (q.2))] → W p l e (rmK 1) s m args below meth c H locs 0 0 Q (F0 m 4 ls [])) (K := fun q : Int32 × Int32 => ∀ (H : Heap) (locs : List Loc) (ls : Array Slot), HM G A H0 S H locs → lv_has ls 4 [(2, .int (q.1))] → W p l e (rmK 1) s m args below meth c H locs 0 0 Q (F0 m 41 ls [])) (fun q o hit Kn Kt => w_i_X7_wiredTo_4 C  hit Kn Kt) n q0 u hq Kt
def f_X7_wiredTo (S : St) (a0 : Int32) : Option (Int32) :=
  bd (iter (fun q => i_X7_wiredTo_4 S a0 q.1 q.2) BIG ((0 : Int32), (0 : Int32))) fun q4 => some q4.1
set_option maxHeartbeats 4000000 in
set_option maxRecDepth 100000 in
theorem w_f_X7_wiredTo {G : Geo} {p : Program} {l : Launch} {e : Env} {s : State} {m : MethodId} {args : Array Value} {below : List Frame} {meth : Method} {c : Code} {A : Nat → Prop} {H0 : Heap} {Q : State → Prop} (C : Cx G RX7 cX7_wiredTo 4 p s m args c) {S : St} {a0 : Int32} {o : Int32} (h : f_X7_wiredTo S a0 = some o) (K : KI 18 eM G A H0 cX7_wiredTo p l e 1 s m args below meth c Q o S) : ∀ (H : Heap) (locs : List Loc) (ls : Array Slot), HM G A H0 S H locs → lv_has ls 4 [(0, .ref (adr G 0)), (1, .int a0)] → W p l e (rmK 1) s m args below meth c H locs 0 0 Q (F0 m 0 ls []) := by
  obtain ⟨hx, hb, -⟩ := id C
  intro H locs ls hW hl
  unfold f_X7_wiredTo at h
  refine lv_iconst (v := 0) hx hb dX7_wiredTo_0 (by decide) ?_
  refine lv_istore_n (lv' := [(2, .int ((0 : Int32))), (0, .ref (adr G 0)), (1, .int a0)]) hx hb dX7_wiredTo_1 rfl hl (by decide) rfl (fun ls hl => ?_)
  refine lv_iconst (v := 0) hx hb dX7_wiredTo_2 (by decide) ?_
  refine lv_istore_n (lv' := [(3, .int ((0 : Int32))), (2, .int ((0 : Int32))), (0, .ref (adr G 0)), (1, .int a0)]) hx hb dX7_wiredTo_3 rfl hl (by decide) rfl (fun ls hl => ?_)
  obtain ⟨q4, q4h, h⟩ := bd_some h
  refine l_i_X7_wiredTo_4 C  q4h ?_ _ _ _ hW (lv_sub hl [2, 3, 1, 0] rfl)
  intro H locs ls hW hl
  refine lv_iload_n hx hb dX7_wiredTo_41 rfl (lv_at hl 0 rfl) ?_
  obtain rfl := Option.some.inj h
  exact K _ _ _ _ dX7_wiredTo_42 hW
set_option maxRecDepth 100000 in
theorem c_X7_wiredTo (l : Launch) (G : Geo) {S : St} {a0 : Int32} {o : Int32} (h : f_X7_wiredTo S a0 = some o) : MI 18 eM G l yX7_wiredTo cX7_wiredTo 4 (some .int) 1 [.ref (adr G 0), .int a0] S o S :=
  mI_of (by decide +kernel) (Nat.le_of_ble_eq_true rfl) (fun p e s m below meth c A H0 Q C K => w_f_X7_wiredTo C h K)
def f_X7_ofLamp (S : St) (a0 : Int32) (a1 : Int32) : Option (Int32) :=
  bd (f_X7_isLamp S a0) fun r2 => if r2 = true then (if a1 = 0 then (ck (okx a0 5) <| some (S 4 (ix a0))) else if a1 = 1 then (ck (okx a0 5) <| some (S 5 (ix a0))) else if a1 = 2 then (bd (f_X7_wiredTo S a0) fun r52 => some r52) else (some ((-2 : Int32)))) else (some ((-1 : Int32)))
set_option maxHeartbeats 4000000 in
set_option maxRecDepth 100000 in
theorem w_f_X7_ofLamp {G : Geo} {p : Program} {l : Launch} {e : Env} {s : State} {m : MethodId} {args : Array Value} {below : List Frame} {meth : Method} {c : Code} {A : Nat → Prop} {H0 : Heap} {Q : State → Prop} (C : Cx G RX7 cX7_ofLamp 3 p s m args c) {S : St} {a0 : Int32} {a1 : Int32} {o : Int32} (h : f_X7_ofLamp S a0 a1 = some o) (K : KI 18 eM G A H0 cX7_ofLamp p l e 2 s m args below meth c Q o S) : ∀ (H : Heap) (locs : List Loc) (ls : Array Slot), HM G A H0 S H locs → lv_has ls 3 [(0, .ref (adr G 0)), (1, .int a0), (2, .int a1)] → W p l e (rmK 2) s m args below meth c H locs 0 0 Q (F0 m 0 ls []) := by
  obtain ⟨hx, hb, -⟩ := id C
  intro H locs ls hW hl
  unfold f_X7_ofLamp at h
  refine lv_aload_n hx hb dX7_ofLamp_0 rfl (lv_at hl 0 rfl) ?_
  refine lv_iload_n hx hb dX7_ofLamp_1 rfl (lv_at hl 1 rfl) ?_
  obtain ⟨r2, r2h, h⟩ := bd_some h
  refine x_backI hW (x_runV (As := [.int a0]) (rest := []) C hW (c_X7_isLamp l G r2h H.size) cv_RX7_127 rv_X7 hl.1 rfl rfl ⟨by decide, by decide⟩ (Nat.le_of_ble_eq_true rfl) ⟨Nat.zero_le _, Nat.zero_le _⟩ dX7_ofLamp_2) (fun H locs hW => ?_)
  refine z_if_ne (tgt := 10) hx hb dX7_ofLamp_5 (by decide) (fun b5 => ?_) (fun b5 => ?_)
  · have h := it_t b5 h
    refine lv_iload_n hx hb dX7_ofLamp_10 rfl (lv_at hl 2 rfl) ?_
    by_cases v11_0 : a1 = 0
    · have h := it_t v11_0 h
      refine lv_tableIn (off := 25) (tgt := 36) hx hb dX7_ofLamp_11 (by rw [v11_0]; decide) (by rw [v11_0]; decide) (by rw [v11_0]; rfl) (by decide) ?_
      refine lv_aload_n hx hb dX7_ofLamp_36 rfl (lv_at hl 0 rfl) ?_
      refine gf_RX7_19 C hW dX7_ofLamp_37 ?_
      refine lv_iload_n hx hb dX7_ofLamp_40 rfl (lv_at hl 1 rfl) ?_
      obtain ⟨g41, h⟩ := ck_some h
      refine x_iald C hW (k := 4) (n := 5) (by decide) (fun _ => rfl) g41 dX7_ofLamp_41 ?_
      obtain rfl := Option.some.inj h
      exact K _ _ _ _ dX7_ofLamp_42 hW
    · have h := it_f v11_0 h
      by_cases v11_1 : a1 = 1
      · have h := it_t v11_1 h
        refine lv_tableIn (off := 32) (tgt := 43) hx hb dX7_ofLamp_11 (by rw [v11_1]; decide) (by rw [v11_1]; decide) (by rw [v11_1]; rfl) (by decide) ?_
        refine lv_aload_n hx hb dX7_ofLamp_43 rfl (lv_at hl 0 rfl) ?_
        refine gf_RX7_22 C hW dX7_ofLamp_44 ?_
        refine lv_iload_n hx hb dX7_ofLamp_47 rfl (lv_at hl 1 rfl) ?_
        obtain ⟨g48, h⟩ := ck_some h
        refine x_iald C hW (k := 5) (n := 5) (by decide) (fun _ => rfl) g48 dX7_ofLamp_48 ?_
        obtain rfl := Option.some.inj h
        exact K _ _ _ _ dX7_ofLamp_49 hW
      · have h := it_f v11_1 h
        by_cases v11_2 : a1 = 2
        · have h := it_t v11_2 h
          refine lv_tableIn (off := 39) (tgt := 50) hx hb dX7_ofLamp_11 (by rw [v11_2]; decide) (by rw [v11_2]; decide) (by rw [v11_2]; rfl) (by decide) ?_
          refine lv_aload_n hx hb dX7_ofLamp_50 rfl (lv_at hl 0 rfl) ?_
          refine lv_iload_n hx hb dX7_ofLamp_51 rfl (lv_at hl 1 rfl) ?_
          obtain ⟨r52, r52h, h⟩ := bd_some h
          refine x_backI hW (x_runV (As := [.int a0]) (rest := []) C hW (c_X7_wiredTo l G r52h H.size) cv_RX7_130 rv_X7 hl.1 rfl rfl ⟨by decide, by decide⟩ (Nat.le_of_ble_eq_true rfl) ⟨Nat.zero_le _, Nat.zero_le _⟩ dX7_ofLamp_52) (fun H locs hW => ?_)
          obtain rfl := Option.some.inj h
          exact K _ _ _ _ dX7_ofLamp_55 hW
        · have h := it_f v11_2 h
          have w11_0 := ne_i 0 0 (by decide) v11_0
          have w11_1 := ne_i 1 1 (by decide) v11_1
          have w11_2 := ne_i 2 2 (by decide) v11_2
          refine lv_tableOut (tgt := 56) hx hb dX7_ofLamp_11 (by omega) (by decide) ?_
          refine lv_bipush (v := (-2)) hx hb dX7_ofLamp_56 (by decide) ?_
          obtain rfl := Option.some.inj h
          exact K _ _ _ _ dX7_ofLamp_58 hW
  · have h := it_f b5 h
    refine lv_iconst (v := (-1)) hx hb dX7_ofLamp_8 (by decide) ?_
    obtain rfl := Option.some.inj h
    exact K _ _ _ _ dX7_ofLamp_9 hW
set_option maxRecDepth 100000 in
theorem c_X7_ofLamp (l : Launch) (G : Geo) {S : St} {a0 : Int32} {a1 : Int32} {o : Int32} (h : f_X7_ofLamp S a0 a1 = some o) : MI 18 eM G l yX7_ofLamp cX7_ofLamp 3 (some .int) 2 [.ref (adr G 0), .int a0, .int a1] S o S :=
  mI_of (by decide +kernel) (Nat.le_of_ble_eq_true rfl) (fun p e s m below meth c A H0 Q C K => w_f_X7_ofLamp C h K)
def f_X7_ofSwitch (S : St) (a0 : Int32) (a1 : Int32) : Option (Int32) :=
  bd (f_X7_isSwitch S a0) fun r2 => if r2 = true then (if a1 = 0 then (ck (okx a0 5) <| some (S 6 (ix a0))) else if a1 = 1 then (ck (okx a0 5) <| some (S 7 (ix a0))) else if a1 = 2 then (bd (f_X7_movesOf S a0) fun r60 => some r60) else if a1 = 3 then (ck (okx a0 5) <| some (S 8 (ix a0))) else if a1 = 4 then (ck (okx a0 5) <| some (S 9 (ix a0))) else (some ((-2 : Int32)))) else (some ((-1 : Int32)))
set_option maxHeartbeats 4000000 in
set_option maxRecDepth 100000 in
theorem w_f_X7_ofSwitch {G : Geo} {p : Program} {l : Launch} {e : Env} {s : State} {m : MethodId} {args : Array Value} {below : List Frame} {meth : Method} {c : Code} {A : Nat → Prop} {H0 : Heap} {Q : State → Prop} (C : Cx G RX7 cX7_ofSwitch 3 p s m args c) {S : St} {a0 : Int32} {a1 : Int32} {o : Int32} (h : f_X7_ofSwitch S a0 a1 = some o) (K : KI 18 eM G A H0 cX7_ofSwitch p l e 1 s m args below meth c Q o S) : ∀ (H : Heap) (locs : List Loc) (ls : Array Slot), HM G A H0 S H locs → lv_has ls 3 [(0, .ref (adr G 0)), (1, .int a0), (2, .int a1)] → W p l e (rmK 1) s m args below meth c H locs 0 0 Q (F0 m 0 ls []) := by
  obtain ⟨hx, hb, -⟩ := id C
  intro H locs ls hW hl
  unfold f_X7_ofSwitch at h
  refine lv_aload_n hx hb dX7_ofSwitch_0 rfl (lv_at hl 0 rfl) ?_
  refine lv_iload_n hx hb dX7_ofSwitch_1 rfl (lv_at hl 1 rfl) ?_
  obtain ⟨r2, r2h, h⟩ := bd_some h
  refine x_backI hW (x_runV (As := [.int a0]) (rest := []) C hW (c_X7_isSwitch l G r2h H.size) cv_RX7_133 rv_X7 hl.1 rfl rfl ⟨by decide, by decide⟩ (Nat.le_of_ble_eq_true rfl) ⟨Nat.zero_le _, Nat.zero_le _⟩ dX7_ofSwitch_2) (fun H locs hW => ?_)
  refine z_if_ne (tgt := 10) hx hb dX7_ofSwitch_5 (by decide) (fun b5 => ?_) (fun b5 => ?_)
  · have h := it_t b5 h
    refine lv_iload_n hx hb dX7_ofSwitch_10 rfl (lv_at hl 2 rfl) ?_
    by_cases v11_0 : a1 = 0
    · have h := it_t v11_0 h
      refine lv_tableIn (off := 33) (tgt := 44) hx hb dX7_ofSwitch_11 (by rw [v11_0]; decide) (by rw [v11_0]; decide) (by rw [v11_0]; rfl) (by decide) ?_
      refine lv_aload_n hx hb dX7_ofSwitch_44 rfl (lv_at hl 0 rfl) ?_
      refine gf_RX7_25 C hW dX7_ofSwitch_45 ?_
      refine lv_iload_n hx hb dX7_ofSwitch_48 rfl (lv_at hl 1 rfl) ?_
      obtain ⟨g49, h⟩ := ck_some h
      refine x_iald C hW (k := 6) (n := 5) (by decide) (fun _ => rfl) g49 dX7_ofSwitch_49 ?_
      obtain rfl := Option.some.inj h
      exact K _ _ _ _ dX7_ofSwitch_50 hW
    · have h := it_f v11_0 h
      by_cases v11_1 : a1 = 1
      · have h := it_t v11_1 h
        refine lv_tableIn (off := 40) (tgt := 51) hx hb dX7_ofSwitch_11 (by rw [v11_1]; decide) (by rw [v11_1]; decide) (by rw [v11_1]; rfl) (by decide) ?_
        refine lv_aload_n hx hb dX7_ofSwitch_51 rfl (lv_at hl 0 rfl) ?_
        refine gf_RX7_28 C hW dX7_ofSwitch_52 ?_
        refine lv_iload_n hx hb dX7_ofSwitch_55 rfl (lv_at hl 1 rfl) ?_
        obtain ⟨g56, h⟩ := ck_some h
        refine x_iald C hW (k := 7) (n := 5) (by decide) (fun _ => rfl) g56 dX7_ofSwitch_56 ?_
        obtain rfl := Option.some.inj h
        exact K _ _ _ _ dX7_ofSwitch_57 hW
      · have h := it_f v11_1 h
        by_cases v11_2 : a1 = 2
        · have h := it_t v11_2 h
          refine lv_tableIn (off := 47) (tgt := 58) hx hb dX7_ofSwitch_11 (by rw [v11_2]; decide) (by rw [v11_2]; decide) (by rw [v11_2]; rfl) (by decide) ?_
          refine lv_aload_n hx hb dX7_ofSwitch_58 rfl (lv_at hl 0 rfl) ?_
          refine lv_iload_n hx hb dX7_ofSwitch_59 rfl (lv_at hl 1 rfl) ?_
          obtain ⟨r60, r60h, h⟩ := bd_some h
          refine x_backI hW (x_runV (As := [.int a0]) (rest := []) C hW (c_X7_movesOf l G r60h H.size) cv_RX7_136 rv_X7 hl.1 rfl rfl ⟨by decide, by decide⟩ (Nat.le_of_ble_eq_true rfl) ⟨Nat.zero_le _, Nat.zero_le _⟩ dX7_ofSwitch_60) (fun H locs hW => ?_)
          obtain rfl := Option.some.inj h
          exact K _ _ _ _ dX7_ofSwitch_63 hW
        · have h := it_f v11_2 h
          by_cases v11_3 : a1 = 3
          · have h := it_t v11_3 h
            refine lv_tableIn (off := 53) (tgt := 64) hx hb dX7_ofSwitch_11 (by rw [v11_3]; decide) (by rw [v11_3]; decide) (by rw [v11_3]; rfl) (by decide) ?_
            refine lv_aload_n hx hb dX7_ofSwitch_64 rfl (lv_at hl 0 rfl) ?_
            refine gf_RX7_31 C hW dX7_ofSwitch_65 ?_
            refine lv_iload_n hx hb dX7_ofSwitch_68 rfl (lv_at hl 1 rfl) ?_
            obtain ⟨g69, h⟩ := ck_some h
            refine x_iald C hW (k := 8) (n := 5) (by decide) (fun _ => rfl) g69 dX7_ofSwitch_69 ?_
            obtain rfl := Option.some.inj h
            exact K _ _ _ _ dX7_ofSwitch_70 hW
          · have h := it_f v11_3 h
            by_cases v11_4 : a1 = 4
            · have h := it_t v11_4 h
              refine lv_tableIn (off := 60) (tgt := 71) hx hb dX7_ofSwitch_11 (by rw [v11_4]; decide) (by rw [v11_4]; decide) (by rw [v11_4]; rfl) (by decide) ?_
              refine lv_aload_n hx hb dX7_ofSwitch_71 rfl (lv_at hl 0 rfl) ?_
              refine gf_RX7_34 C hW dX7_ofSwitch_72 ?_
              refine lv_iload_n hx hb dX7_ofSwitch_75 rfl (lv_at hl 1 rfl) ?_
              obtain ⟨g76, h⟩ := ck_some h
              refine x_iald C hW (k := 9) (n := 5) (by decide) (fun _ => rfl) g76 dX7_ofSwitch_76 ?_
              obtain rfl := Option.some.inj h
              exact K _ _ _ _ dX7_ofSwitch_77 hW
            · have h := it_f v11_4 h
              have w11_0 := ne_i 0 0 (by decide) v11_0
              have w11_1 := ne_i 1 1 (by decide) v11_1
              have w11_2 := ne_i 2 2 (by decide) v11_2
              have w11_3 := ne_i 3 3 (by decide) v11_3
              have w11_4 := ne_i 4 4 (by decide) v11_4
              refine lv_tableOut (tgt := 78) hx hb dX7_ofSwitch_11 (by omega) (by decide) ?_
              refine lv_bipush (v := (-2)) hx hb dX7_ofSwitch_78 (by decide) ?_
              obtain rfl := Option.some.inj h
              exact K _ _ _ _ dX7_ofSwitch_80 hW
  · have h := it_f b5 h
    refine lv_iconst (v := (-1)) hx hb dX7_ofSwitch_8 (by decide) ?_
    obtain rfl := Option.some.inj h
    exact K _ _ _ _ dX7_ofSwitch_9 hW
set_option maxRecDepth 100000 in
theorem c_X7_ofSwitch (l : Launch) (G : Geo) {S : St} {a0 : Int32} {a1 : Int32} {o : Int32} (h : f_X7_ofSwitch S a0 a1 = some o) : MI 18 eM G l yX7_ofSwitch cX7_ofSwitch 3 (some .int) 1 [.ref (adr G 0), .int a0, .int a1] S o S :=
  mI_of (by decide +kernel) (Nat.le_of_ble_eq_true rfl) (fun p e s m below meth c A H0 Q C K => w_f_X7_ofSwitch C h K)
