/-! a new sheet; cells that go from one to another -/
theorem X_begin {S : St} {k z : Nat} (hk : shX k) (hz : z ≤ 60) (la : Int32) : f_X4_begin S k la (nI z) = some (fill (up (up S k 0 la) k 2 (nI z)) (k + 4) z (fun _ => 0)) := by
  unfold f_X4_begin f_J9_min_7cf53 f_J9_max_7cf53
  rw [ck_t hk, if_neg (by rw [n60, nlt (by decide) (by omega)]; omega), bd_s]
  have e : (if (0 : Int32) < nI z then some (nI z) else some (0 : Int32)) = some (nI z) := by
    by_cases h0 : z = 0
    · subst h0; rfl
    · rw [if_pos (by rw [n0, nlt (by decide) (by omega)]; omega)]
  rw [e, bd_s]
  have ek : ∀ i, fill (up (up S k 0 la) k 2 (nI z)) (k + 4) i (fun _ => 0) k 2 = nI z := fun i => by rw [fill_ne _ _ _ _ (by omega), up_ap, if_pos rfl, if_pos rfl]
  rw [iter_to (fun i => (fill (up (up S k 0 la) k 2 (nI z)) (k + 4) i (fun _ => 0), nI i)) z (t := (fill (up (up S k 0 la) k 2 (nI z)) (k + 4) z (fun _ => 0), nI z)) (by rw [fill_0]; rfl), bd_s]
  · intro i hi
    show i_X4_begin_21 (fill (up (up S k 0 la) k 2 (nI z)) (k + 4) i (fun _ => 0)) k (nI i) = _
    unfold i_X4_begin_21
    rw [ek, if_neg (by rw [nle (by omega) (by omega)]; omega), ck_t (okn (by omega) (by decide)), ixn (by omega), fill_up' rfl, nadd1]
  · show i_X4_begin_21 (fill (up (up S k 0 la) k 2 (nI z)) (k + 4) z (fun _ => 0)) k (nI z) = _
    unfold i_X4_begin_21
    rw [ek, if_pos (by rw [nle (by omega) (by omega)]; omega)]
  · have := bigN; omega
/-- places of a row from a on get f -/
def seg (S : St) (r a n : Nat) (f : Nat → Int32) : St := va_up S r (fun p => if a ≤ p ∧ p < a + n then f (p - a) else S r p)
theorem seg_ne (S : St) (r a n : Nat) (f : Nat → Int32) {k : Nat} (h : k ≠ r) : seg S r a n f k = S k := by unfold seg va_up; simp [h]
theorem seg_at (S : St) (r a n : Nat) (f : Nat → Int32) (p : Nat) : seg S r a n f r p = if a ≤ p ∧ p < a + n then f (p - a) else S r p := by unfold seg va_up; simp
theorem seg_0 (S : St) (r a : Nat) (f : Nat → Int32) : seg S r a 0 f = S := by
  funext k p
  by_cases h : k = r
  · subst h
    rw [seg_at, if_neg (by omega)]
  · rw [seg_ne _ _ _ _ _ h]
theorem seg_up {S : St} {r a n : Nat} {f : Nat → Int32} {v : Int32} (h : v = f n) : up (seg S r a n f) r (a + n) v = seg S r a (n + 1) f := by
  subst h
  funext k p
  rw [up_ap]
  by_cases hk : k = r
  · subst hk
    rw [if_pos rfl, seg_at, seg_at]
    by_cases hp : p = a + n
    · subst hp
      rw [if_pos rfl, if_pos (by omega), show a + n - a = n by omega]
    · rw [if_neg hp]
      by_cases h1 : a ≤ p ∧ p < a + n
      · rw [if_pos h1, if_pos (by omega)]
      · rw [if_neg h1, if_neg (by omega)]
  · rw [if_neg hk, seg_ne _ _ _ _ _ hk, seg_ne _ _ _ _ _ hk]
theorem sim_sheet : Sim_sheet Inv := by
  intro Sx Sm a0 a1 a2 h0
  unfold f_X6_sheet f_X7_sheet
  have h := h0.fault 0
  generalize up Sx 0 8 (0 : Int32) = X at h ⊢
  generalize up Sm 0 0 (0 : Int32) = M at h ⊢
  obtain ⟨D, nw, nr, rs, rl, hI⟩ := id h
  obtain ⟨h1, h2, h3, h4, h5, h6, h7⟩ := id hI
  rcases nix2 a0 (n := 4) (by decide) with ha | ⟨k, hk, rfl⟩
  · rw [X_sheetAt0 ha, M_isSheet0 ha, bd_s, bd_s, op_0, if_neg (by decide)]
    exact ⟨_, X, M, rfl, rfl, h⟩
  have hsh : shX (8 + k) := ⟨by omega, by omega⟩
  rw [X_sheetAt1 hk, M_isSheet1 hk, bd_s, bd_s, op_1, if_pos rfl, ck_t hsh, X_lane, M_sort, bd_s, bd_s]
  by_cases hl : inB a1 0 2 = false
  · rw [if_pos hl, if_pos hl]
    exact ⟨_, X, M, rfl, rfl, h⟩
  rw [if_neg hl, if_neg hl]
  by_cases h60 : a2 ≤ 60
  · rw [if_pos h60, if_pos h60]
    by_cases hn : 0 ≤ a2
    · rw [if_pos hn, if_pos hn]
      obtain ⟨la, hla, rfl⟩ := inB_n (n := 2) (by decide) (show inB a1 0 (nI 2) = true from (show inB a1 0 2 = true by simpa using hl))
      obtain ⟨z, hz, rfl⟩ : ∃ z : Nat, z ≤ 60 ∧ a2 = nI z := nI_of2 (M := 60) (n := 60) rfl (by rw [Int32.lt_iff_toInt_lt]; rw [Int32.le_iff_toInt_le] at hn; omega) h60
      rw [X_begin hsh hz, bd_s, ck_t (okn hk (by decide)), ck_t (okn hk (by decide)), ixn (j := k) (by omega)]
      generalize hM2 : up (up M 1 k (nI la)) 2 k (nI z) = M2
      rw [iter_to (fun i => (seg M2 3 (60 * k) i (fun _ => 0), nI i)) 60 (t := (seg M2 3 (60 * k) 60 (fun _ => 0), nI 60)) (by rw [seg_0]; rfl), bd_s]
      · refine ⟨_, _, seg M2 3 (60 * k) 60 (fun _ => 0), rfl, rfl, D, nw, nr, rs, rl, Inv.sheetTo hI (fun k' hk' => ?_) (fun a ha => ?_) (fun a q1 q2 q3 => ?_)⟩
        · by_cases e : k' = k
          · subst e
            right
            refine ⟨z, la, hz, hla, ?_, ?_, ?_, ?_, fun i hi => ?_⟩
            · rw [fill_ne _ _ _ _ (by omega), up_ap, if_pos rfl, if_pos rfl]
            · rw [seg_ne _ _ _ _ _ (by decide), ← hM2, up_ap, if_pos rfl, if_pos rfl]
            · rw [fill_ne _ _ _ _ (by omega), up_ap, if_pos rfl, if_neg (by decide), up_ap, if_pos rfl, if_pos rfl]
            · rw [seg_ne _ _ _ _ _ (by decide), ← hM2, up_ne _ _ _ _ (by decide), up_ap, if_pos rfl, if_pos rfl]
            · rw [show 12 + k' = 8 + k' + 4 by omega, fill_lo hi, seg_at, if_pos (by omega)]
          · unfold ShR
            rw [fill_ne _ _ _ _ (show 8 + k' ≠ 8 + k + 4 by omega), fill_ne _ _ _ _ (show 12 + k' ≠ 8 + k + 4 by omega), up_ne _ _ _ _ (show 8 + k' ≠ 8 + k by omega), up_ne _ _ _ _ (show 8 + k' ≠ 8 + k by omega), up_ne _ _ _ _ (show 12 + k' ≠ 8 + k by omega), up_ne _ _ _ _ (show 12 + k' ≠ 8 + k by omega), seg_ne _ _ _ _ _ (show 1 ≠ 3 by decide), seg_ne _ _ _ _ _ (show 2 ≠ 3 by decide)]
            have m1 : M2 1 k' = M 1 k' := by rw [← hM2, up_ne _ _ _ _ (by decide), up_ap, if_pos rfl, if_neg e]
            have m2 : M2 2 k' = M 2 k' := by rw [← hM2, up_ap, if_pos rfl, if_neg e, up_ne _ _ _ _ (by decide)]
            have m3 : M2 3 = M 3 := by rw [← hM2, up_ne _ _ _ _ (by decide), up_ne _ _ _ _ (by decide)]
            rw [m1, m2]
            rcases h6 k' hk' with h | ⟨z', la', hz', hla', f1, f2, f3, f4, f5⟩
            · exact Or.inl h
            · refine Or.inr ⟨z', la', hz', hla', f1, f2, f3, f4, fun q hq => ?_⟩
              rw [seg_at, if_neg (by omega), m3]
              exact f5 q hq
        · rw [fill_ne _ _ _ _ (by omega), up_ne _ _ _ _ (by omega), up_ne _ _ _ _ (by omega)]
        · rw [seg_ne _ _ _ _ _ q3, ← hM2, up_ne _ _ _ _ q2, up_ne _ _ _ _ q1]
      · intro i hi
        show i_X7_sheet_57 (seg M2 3 (60 * k) i (fun _ => 0)) (nI k) (nI i) = _
        unfold i_X7_sheet_57
        rw [if_neg (by rw [n60, nle (by decide) (by omega)]; omega), flat_ok hk hi, ck_t (okn (by omega) (by decide)), ixn (by omega), seg_up rfl, nadd1]
      · show i_X7_sheet_57 (seg M2 3 (60 * k) 60 (fun _ => 0)) (nI k) (nI 60) = _
        unfold i_X7_sheet_57
        rw [if_pos (by decide)]
      · have := bigN; omega
    · rw [if_neg hn, if_neg hn]
      unfold f_X6_faulted f_X7_fails
      exact ⟨_, _, _, rfl, rfl, h.fault 4⟩
  · rw [if_neg h60, if_neg h60]
    exact ⟨_, X, M, rfl, rfl, h⟩
/-- cells that go on, one behind another: up or down, they come as they were -/
theorem M_copyUp {M : St} {k i o j n : Nat} (hk : k < 4) (ho : o < 4) (hi : i + n ≤ 60) (hj : j + n ≤ 60) (hd : k = o → j ≤ i) : iter (fun q => i_X7_copy_166 q.1 (nI k) (nI i) (nI o) (nI j) (nI n) 0 q.2) BIG (M, (0 : Int32)) = some (seg M 3 (60 * o + j) n (fun c => M 3 (60 * k + i + c)), nI n) := by
  refine iter_to (fun c => (seg M 3 (60 * o + j) c (fun c => M 3 (60 * k + i + c)), nI c)) n (by rw [seg_0]; rfl) ?_ ?_ (by have := bigN; omega)
  · intro c hc
    show i_X7_copy_166 (seg M 3 (60 * o + j) c (fun c => M 3 (60 * k + i + c))) (nI k) (nI i) (nI o) (nI j) (nI n) 0 (nI c) = _
    unfold i_X7_copy_166 j_X7_copy_190
    rw [if_neg (by rw [nle (by omega) (by omega)]; omega), if_pos rfl, flat_ok hk (by omega), flat_ok ho (by omega), nI_add, nI_add, ck_t (okn (by omega) (by decide)), ck_t (okn (by omega) (by decide)), ixn (by omega), ixn (by omega), nadd1, seg_up]
    rw [seg_at, if_neg]
    by_cases e : k = o
    · have := hd e; subst e; omega
    · omega
  · show i_X7_copy_166 (seg M 3 (60 * o + j) n (fun c => M 3 (60 * k + i + c))) (nI k) (nI i) (nI o) (nI j) (nI n) 0 (nI n) = _
    unfold i_X7_copy_166
    rw [if_pos (by rw [nle (by omega) (by omega)]; omega)]
theorem seg_down {S : St} {r a n c : Nat} {f : Nat → Int32} {v : Int32} (hc : c < n) (h : v = f (n - 1 - c)) : up (seg S r (a + (n - c)) c (fun q => f (n - c + q))) r (a + (n - 1 - c)) v = seg S r (a + (n - (c + 1))) (c + 1) (fun q => f (n - (c + 1) + q)) := by
  subst h
  funext k p
  rw [up_ap]
  by_cases hk : k = r
  · subst hk
    rw [if_pos rfl, seg_at, seg_at]
    by_cases hp : p = a + (n - 1 - c)
    · subst hp
      rw [if_pos rfl, if_pos (by omega)]
      congr 1
      omega
    · rw [if_neg hp]
      by_cases h1 : a + (n - c) ≤ p ∧ p < a + (n - c) + c
      · rw [if_pos h1, if_pos (by omega)]
        congr 1
        omega
      · rw [if_neg h1, if_neg (by omega)]
  · rw [if_neg hk, seg_ne _ _ _ _ _ hk, seg_ne _ _ _ _ _ hk]
theorem M_copyDown {M : St} {k i o j n : Nat} (hk : k < 4) (ho : o < 4) (hi : i + n ≤ 60) (hj : j + n ≤ 60) (hd : k = o → i < j) : iter (fun q => i_X7_copy_166 q.1 (nI k) (nI i) (nI o) (nI j) (nI n) 1 q.2) BIG (M, (0 : Int32)) = some (seg M 3 (60 * o + j) n (fun c => M 3 (60 * k + i + c)), nI n) := by
  have e0 : seg M 3 (60 * o + j) n (fun c => M 3 (60 * k + i + c)) = seg M 3 (60 * o + j + (n - n)) n (fun q => M 3 (60 * k + i + (n - n + q))) := by
    rw [Nat.sub_self, Nat.add_zero]
    congr 1
    funext q
    rw [Nat.zero_add]
  rw [e0]
  refine iter_to (fun c => (seg M 3 (60 * o + j + (n - c)) c (fun q => M 3 (60 * k + i + (n - c + q))), nI c)) n (by rw [seg_0]; rfl) ?_ ?_ (by have := bigN; omega)
  · intro c hc
    show i_X7_copy_166 (seg M 3 (60 * o + j + (n - c)) c (fun q => M 3 (60 * k + i + (n - c + q)))) (nI k) (nI i) (nI o) (nI j) (nI n) 1 (nI c) = _
    have en : nI n - 1 - nI c = nI (n - 1 - c) := by
      obtain ⟨q, rfl⟩ : ∃ q, n = q + 1 := ⟨n - 1, by omega⟩
      rw [nI_pred, pk_sub (by omega)]
      rfl
    unfold i_X7_copy_166 j_X7_copy_190
    rw [if_neg (by rw [nle (by omega) (by omega)]; omega), if_neg (by decide), en, flat_ok hk (by omega), flat_ok ho (by omega), nI_add, nI_add, ck_t (okn (by omega) (by decide)), ck_t (okn (by omega) (by decide)), ixn (by omega), ixn (by omega), nadd1, seg_down (f := fun c => M 3 (60 * k + i + c)) hc]
    rw [seg_at, if_neg]
    by_cases e : k = o
    · have := hd e; subst e; omega
    · omega
  · show i_X7_copy_166 (seg M 3 (60 * o + j + (n - n)) n (fun q => M 3 (60 * k + i + (n - n + q)))) (nI k) (nI i) (nI o) (nI j) (nI n) 1 (nI n) = _
    unfold i_X7_copy_166
    rw [if_pos (by rw [nle (by omega) (by omega)]; omega)]
theorem sim_copy : Sim_copy Inv := by
  intro Sx Sm a0 a1 a2 a3 a4 h0
  unfold f_X6_copy f_X7_copy
  have h := h0.fault 0
  generalize up Sx 0 8 (0 : Int32) = X at h ⊢
  generalize up Sm 0 0 (0 : Int32) = M at h ⊢
  obtain ⟨D, nw, nr, rs, rl, hI⟩ := id h
  obtain ⟨h1, h2, h3, h4, h5, h6, h7⟩ := id hI
  rcases nix2 a0 (n := 4) (by decide) with ha | ⟨k, hk, rfl⟩
  · rw [X_sheetAt0 ha, M_isSheet0 ha, bd_s, bd_s, op_0, if_pos rfl]
    rcases nix2 a2 (n := 4) (by decide) with hb | ⟨o, ho, rfl⟩
    · rw [X_sheetAt0 hb, bd_s, op_0]
      exact ⟨_, X, M, rfl, rfl, h⟩
    · rw [X_sheetAt1 ho, bd_s, op_1, ck_t (show shX (8 + o) from ⟨by omega, by omega⟩)]
      exact ⟨_, X, M, rfl, rfl, h⟩
  have hsh : shX (8 + k) := ⟨by omega, by omega⟩
  rw [X_sheetAt1 hk, M_isSheet1 hk, bd_s, bd_s, op_1, if_neg (by decide), ck_t hsh]
  rcases nix2 a2 (n := 4) (by decide) with hb | ⟨o, ho, rfl⟩
  · rw [X_sheetAt0 hb, M_isSheet0 hb, bd_s, bd_s, op_0, if_neg (by decide)]
    exact ⟨_, X, M, rfl, rfl, h⟩
  have hsho : shX (8 + o) := ⟨by omega, by omega⟩
  rw [X_sheetAt1 ho, M_isSheet1 ho, bd_s, bd_s, op_1, if_pos rfl, ck_t hsho]
  simp only [ck_t (okn hk (by decide)), ck_t (okn ho (by decide)), ixn (j := k) (by omega), ixn (j := o) (by omega), f_X6_faulted, f_X7_fails, j_X7_copy_109, j_X7_copy_110, bd_s, if_pos (show (0 : Int32) = 0 from rfl), if_neg (show ¬ (1 : Int32) = 0 by decide)]
  rcases h6 k hk with ⟨e1, e2⟩ | ⟨z, la, hz, hla, e1, e2, e3, e4, e5⟩
  · rw [X_noth1 hsh e1, bd_s, if_pos rfl, if_pos e2]
    exact ⟨_, _, _, rfl, rfl, h.fault 1⟩
  rw [X_noth0 hsh e1 hz, bd_s, if_neg (by decide), if_neg (show ¬ M 1 k = -9 by rw [e4]; exact nneg_ne (by omega) (by decide))]
  rcases h6 o ho with ⟨f1, f2⟩ | ⟨y, lb, hy, hlb, f1, f2, f3, f4, f5⟩
  · rw [X_noth1 hsho f1, bd_s, if_neg (by decide), if_pos f2]
    exact ⟨_, _, _, rfl, rfl, h.fault 1⟩
  rw [X_noth0 hsho f1 hy, bd_s, if_pos rfl, if_neg (show ¬ M 1 o = -9 by rw [f4]; exact nneg_ne (by omega) (by decide)), e3, f3, e4, f4]
  by_cases el : nI la = nI lb
  · rw [if_pos el, if_pos el, X_hasCells hsh e1, bd_s, X_hasCells hsho f1, e2, f2]
    -- the reference's tests, one by one
    by_cases hc : hcB z a1 a4 = true
    · by_cases hd : hcB y a3 a4 = true
      · obtain ⟨i, n, rfl, rfl, hin⟩ := hcB_t hz hc
        obtain ⟨j, n', rfl, hn', hjn⟩ := hcB_t hy hd
        have hnn : n' = n := by
          have := congrArg Int32.toInt hn'
          rw [nI_toInt (by omega), nI_toInt (by omega)] at this
          omega
        subst hnn
        rw [hc, if_neg (by decide), bd_s, hd, if_pos rfl, ck_t (show okc (nI i) (nI j) (nI n') 60 60 from ⟨⟨by rw [nI_toInt (by omega)]; omega, by rw [nI_toInt (by omega)]; omega, by rw [nI_toInt (by omega)]; omega⟩, by rw [ixn (by omega), ixn (by omega)]; omega, by rw [ixn (by omega), ixn (by omega)]; omega⟩)]
        rw [if_neg (nnot0 (by omega)), if_neg (nnot0 (by omega)), if_neg (nnot0 (by omega)), if_neg (by rw [nlt (by omega) (by omega)]; omega), if_neg (by rw [nlt (by omega) (by omega)]; omega), if_neg (by rw [pk_sub (by omega), nlt (by omega) (by omega)]; omega), if_pos (by rw [pk_sub (by omega), nle (by omega) (by omega)]; omega)]
        rw [ixn (j := i) (by omega), ixn (j := j) (by omega), ixn (j := n') (by omega)]
        have key : Inv (va_up X (8 + o + 4) (va_cpy (X (8 + k + 4)) (X (8 + o + 4)) i j n')) (seg M 3 (60 * o + j) n' (fun c => M 3 (60 * k + i + c))) := by
          refine ⟨D, nw, nr, rs, rl, Inv.sheetTo hI (fun k' hk' => ?_) (fun a ha => by unfold va_up; rw [if_neg (by omega)]) (fun a _ _ q3 => seg_ne _ _ _ _ _ q3)⟩
          have x8 : va_up X (8 + o + 4) (va_cpy (X (8 + k + 4)) (X (8 + o + 4)) i j n') (8 + k') = X (8 + k') := by unfold va_up; rw [if_neg (by omega)]
          unfold ShR
          rw [x8, seg_ne _ _ _ _ _ (show 1 ≠ 3 by decide), seg_ne _ _ _ _ _ (show 2 ≠ 3 by decide)]
          by_cases e : k' = o
          · subst e
            refine Or.inr ⟨y, lb, hy, hlb, f1, f2, f3, f4, fun q hq => ?_⟩
            have x12 : va_up X (8 + k' + 4) (va_cpy (X (8 + k + 4)) (X (8 + k' + 4)) i j n') (12 + k') q = va_cpy (X (8 + k + 4)) (X (8 + k' + 4)) i j n' q := by unfold va_up; rw [if_pos (by omega)]
            rw [x12, seg_at]
            unfold va_cpy
            by_cases hq2 : j ≤ q ∧ q < j + n'
            · rw [if_pos hq2, if_pos (by omega), show 8 + k + 4 = 12 + k by omega, e5 _ (by omega)]
              congr 1
              omega
            · rw [if_neg hq2, if_neg (by omega), show 8 + k' + 4 = 12 + k' by omega, f5 q hq]
          · rcases h6 k' hk' with h | ⟨z', la', hz', hla', g1, g2, g3, g4, g5⟩
            · exact Or.inl h
            · refine Or.inr ⟨z', la', hz', hla', g1, g2, g3, g4, fun q hq => ?_⟩
              rw [seg_at, if_neg (by omega)]
              unfold va_up
              rw [if_neg (by omega)]
              exact g5 q hq
        by_cases hij : j ≤ i
        · rw [if_pos (by rw [nle (by omega) (by omega)]; exact hij), M_copyUp hk ho (by omega) (by omega) (fun _ => hij), bd_s]
          exact ⟨_, _, _, rfl, rfl, key⟩
        · rw [if_neg (by rw [nle (by omega) (by omega)]; exact hij), M_copyDown hk ho (by omega) (by omega) (fun _ => by omega), bd_s]
          exact ⟨_, _, _, rfl, rfl, key⟩
      · have hd' : hcB y a3 a4 = false := by simpa using hd
        rw [hc, if_neg (by decide), bd_s, hd', if_neg (by decide)]
        refine ⟨_, _, _, rfl, ?_, h.fault 3⟩
        unfold hcB at hc hd'
        by_cases q1 : a1 < 0
        · rw [if_pos q1, if_pos trivial]
        rw [if_neg q1] at hc ⊢
        by_cases q2 : a3 < 0
        · rw [if_pos q2, if_pos trivial]
        rw [if_neg q2] at hd' ⊢
        by_cases q3 : a4 < 0
        · rw [if_pos q3, if_pos trivial]
        rw [if_neg q3] at hc hd' ⊢
        by_cases q4 : nI z < a1
        · rw [if_pos q4, if_pos trivial]
        rw [if_neg q4] at hc ⊢
        by_cases q5 : nI y < a3
        · rw [if_pos q5, if_pos trivial]
        rw [if_neg q5] at hd' ⊢
        by_cases q6 : nI z - a1 < a4
        · rw [if_pos q6]
        rw [if_neg q6]
        by_cases q7 : nI y - a3 < a4
        · rw [if_neg (by rw [Int32.le_iff_toInt_le]; rw [Int32.lt_iff_toInt_lt] at q7; omega)]
        · rw [if_neg q7] at hd'
          cases hd'
    · have hc' : hcB z a1 a4 = false := by simpa using hc
      rw [hc', if_pos rfl]
      refine ⟨_, _, _, rfl, ?_, h.fault 3⟩
      unfold hcB at hc'
      by_cases q1 : a1 < 0
      · rw [if_pos q1, if_pos trivial]
      rw [if_neg q1] at hc' ⊢
      by_cases q2 : a3 < 0
      · rw [if_pos q2, if_pos trivial]
      rw [if_neg q2]
      by_cases q3 : a4 < 0
      · rw [if_pos q3, if_pos trivial]
      rw [if_neg q3] at hc' ⊢
      by_cases q4 : nI z < a1
      · rw [if_pos q4, if_pos trivial]
      rw [if_neg q4] at hc' ⊢
      by_cases q5 : nI y < a3
      · rw [if_pos q5, if_pos trivial]
      rw [if_neg q5]
      by_cases q6 : nI z - a1 < a4
      · rw [if_pos q6]
      · rw [if_neg q6] at hc'
        cases hc'
  · rw [if_neg el, if_neg el]
    exact ⟨_, _, _, rfl, rfl, h.fault 2⟩
