/-! hall -/
theorem swf_le {T : Nat → Int32} {L p q : Nat} (h : swf T L p = some q) : q ≤ p + 3 + L := by
  have hl := tl_le T L p
  unfold swf at h
  by_cases w1 : T p = 59
  · rw [if_pos w1] at h
    by_cases w2 : knd (T (p + 1)) = -9
    · rw [if_pos w2] at h
      cases h
      omega
    · rw [if_neg w2] at h
      by_cases w3 : inB (T (p + 2)) 49 52 = true
      · rw [if_pos w3] at h
        by_cases w4 : tl T L p < L
        · rw [if_pos w4] at h
          cases h
          omega
        · rw [if_neg w4] at h
          cases h
      · rw [if_neg w3] at h
        cases h
        omega
  · rw [if_neg w1] at h
    cases h
    omega
theorem tF_le {T : Nat → Int32} {n q : Nat} (h : tF T n = some q) : q < 100 := by
  have hL := tL_le T
  have hp := tp_le hL (tS_le T n (tL T))
  unfold tF at h
  by_cases e0 : T 0 = 108
  · rw [if_pos e0] at h
    by_cases e1 : tL T = 0
    · rw [if_pos e1] at h
      cases h
      omega
    · rw [if_neg e1] at h
      by_cases e2 : tS T n (tL T) < 5 ∧ (tS T n (tL T) = 0 ∨ tp (tL T) (tS T n (tL T)) < n)
      · rw [if_pos e2] at h
        have := swf_le h
        omega
      · rw [if_neg e2] at h
        by_cases e3 : tp (tL T) (tS T n (tL T)) = n
        · rw [if_pos e3] at h
          cases h
        · rw [if_neg e3] at h
          cases h
          omega
  · rw [if_neg e0] at h
    cases h
    omega
theorem X_take {S : St} {k z i n : Nat} (hk : k < 4) (hz : z ≤ 60) (ez : S (8 + k) 2 = nI z) (hin : i + n ≤ z) : f_X5_take S (8 + k) (nI i) (nI n) = some (fill (up S 2 1 (nI n)) 28 n (fun p => S (12 + k) (i + p))) := by
  have hsh : shX (8 + k) := ⟨by omega, by omega⟩
  unfold f_X5_take f_J9_min_7cf53
  have em : (if (60 : Int32) < nI n then some (60 : Int32) else some (nI n)) = some (nI n) := by rw [if_neg (by rw [n60, nlt (by decide) (by omega)]; omega)]
  have fr : ∀ p a, a ≠ 2 → a ≠ 28 → fill (up S 2 1 (nI n)) 28 p (fun p => S (12 + k) (i + p)) a = S a := fun p a x y => by rw [fill_ne _ _ _ _ y, up_ne _ _ _ _ x]
  have e21 : ∀ p, fill (up S 2 1 (nI n)) 28 p (fun p => S (12 + k) (i + p)) 2 1 = nI n := fun p => by rw [fill_ne _ _ _ _ (by decide), up_row, if_pos rfl]
  rw [ck_t hsh]
  simp only [if_neg (show ¬ (60 : Int32) < nI n by rw [n60, nlt (by decide) (by omega)]; omega), bd_s]
  rw [iter_to (fun p => (fill (up S 2 1 (nI n)) 28 p (fun p => S (12 + k) (i + p)), nI p)) n (t := (fill (up S 2 1 (nI n)) 28 n (fun p => S (12 + k) (i + p)), nI n)) (by rw [fill_0]; rfl), bd_s]
  · intro p hp
    show i_X5_take_13 (fill (up S 2 1 (nI n)) 28 p (fun p => S (12 + k) (i + p))) (8 + k) (nI i) (nI p) = _
    unfold i_X5_take_13
    rw [e21, if_neg (by rw [nle (by omega) (by omega)]; omega), nI_add, X_at hsh (z := z) (by rw [fr p _ (by omega) (by omega)]; exact ez) hz (by omega), bd_s, ck_t (okn (by omega) (by decide)), ixn (by omega), fr p (8 + k + 4) (by omega) (by omega), show 8 + k + 4 = 12 + k by omega, fill_up' rfl, nadd1]
  · show i_X5_take_13 (fill (up S 2 1 (nI n)) 28 n (fun p => S (12 + k) (i + p))) (8 + k) (nI i) (nI n) = _
    unfold i_X5_take_13
    rw [e21, if_pos (by rw [nle (by omega) (by omega)]; omega)]
  · have := bigN; omega
theorem hall_core {D : HD} {nw : Nat → Nat} {nr : Nat} {rs rl : Nat → Nat} {X M : St} (hI : InvD D nw nr rs rl X M) {k z i n : Nat} (hk : k < 4) (hz : z ≤ 60) (ez : X (8 + k) 2 = nI z) (hin : i + n ≤ z) (e5 : ∀ q, q < z → X (12 + k) q = M 3 (60 * k + q)) :
    ∃ (r : Int32) (X' M' : St), (bd (f_X5_take X (8 + k) (nI i) (nI n)) fun r90 => bd (f_X5_firstFault r90) fun r97 => if r97.1 = ((-9 : Int32)) then (bd (f_X5_layOut r97.2) fun r123 => bd (f_X2_forget (up r123 4 0 ((0 : Int32)))) fun r138 => some (r138 1 3, r138)) else (some (((-100 : Int32)) - r97.1, r97.2))) = some (r, X') ∧
    (bd (f_X7_readHall (up M 0 14 (nI (60 * k + i))) (nI (60 * k + i + n))) fun r67 => if r67.1 = true then (bd (f_X7_takeHall r67.2) fun r85 => some (r85 0 6, r85)) else (some (((-100 : Int32)) - ((r67.2 0 14) - (nI (60 * k + i))), r67.2))) = some (r, M') ∧ Inv X' M' := by
  obtain ⟨h1, h2, h3', h4, h5, h6, h7⟩ := id hI
  obtain ⟨g, hx, hm, hg⟩ := id h1
  obtain ⟨T, hT⟩ : ∃ T : Nat → Int32, T = fun p => if p < n then X (12 + k) (i + p) else -1 := ⟨_, rfl⟩
  have hTlo : ∀ p, p < n → X (12 + k) (i + p) = T p := fun p hp => by rw [hT]; show _ = if p < n then _ else _; rw [if_pos hp]
  have hThi : ∀ p, n ≤ p → T p = -1 := fun p hp => by rw [hT]; show (if p < n then _ else _) = _; rw [if_neg (by omega)]
  rw [X_take hk hz ez hin, bd_s]
  obtain ⟨X1, hX1⟩ : ∃ X1, X1 = fill (up X 2 1 (nI n)) 28 n (fun p => X (12 + k) (i + p)) := ⟨_, rfl⟩
  rw [← hX1]
  have f1 : ∀ a, a ≠ 2 → a ≠ 28 → X1 a = X a := fun a x y => by rw [hX1, fill_ne _ _ _ _ y, up_ne _ _ _ _ x]
  have tx : TX X1 n T := ⟨by rw [hX1, fill_ne _ _ _ _ (by decide), up_row, if_pos rfl], by omega, fun p hp => by rw [hX1, fill_lo hp]; exact hTlo p hp, hThi⟩
  obtain ⟨X2, x1, x2, x3, x4⟩ := X_firstFault tx
  have m0 : ∀ a, a ≠ 0 → (up M 0 14 (nI (60 * k + i))) a = M a := fun a ha => up_ne _ _ _ _ ha
  have m00 : ∀ j, j ≠ 14 → (up M 0 14 (nI (60 * k + i))) 0 j = M 0 j := fun j hj => by rw [up_row, if_neg hj]
  have tm : TM (up M 0 14 (nI (60 * k + i))) (60 * k + i) n T := ⟨fun q hq => by rw [m0 3 (by decide), show 60 * k + i + q = 60 * k + (i + q) by omega, ← e5 (i + q) (by omega)]; exact hTlo q hq, by omega, by omega, hThi⟩
  obtain ⟨b, M2, y1, y2, y3, y4⟩ := M_readHall tm (by rw [up_row, if_pos rfl]; rfl)
  rw [x1, bd_s, y1, bd_s]
  have fx : ∀ a, a ≠ 2 → a ≠ 28 → X2 a = X a := fun a x y => by rw [x2 a x, f1 a x y]
  have fm : ∀ a, a ≠ 0 → a ≠ 10 → a ≠ 11 → M2 a = M a := fun a x y z => by rw [y2 a x y z, m0 a x]
  have fm0 : ∀ j, j ≠ 14 → j ≠ 15 → j ≠ 16 → M2 0 j = M 0 j := fun j x y z => by rw [y3 j x y z, m00 j x]
  rcases y4 with ⟨z0, z1, z2, z3, z4, z5⟩ | ⟨z0, q, z1, z2⟩
  · subst z0
    obtain ⟨w1, w2⟩ := x4 z1
    have tx2 : TX X2 n T := tx.fr x3 (x2 28 (by decide))
    obtain ⟨X3, v1, v2, v3, v4, v5⟩ := X_layOut tx2 z1 w1 w2
    obtain ⟨M3, u1, u2, u3, u4, u5, u6, u7, u8⟩ := M_take z1 z2 z3 z4 z5
    obtain ⟨gD, gn⟩ := tD_ok z1
    show ∃ (r : Int32) (X' M' : St), (if ov (tF T n) = ((-9 : Int32)) then (bd (f_X5_layOut X2) fun r123 => bd (f_X2_forget (up r123 4 0 ((0 : Int32)))) fun r138 => some (r138 1 3, r138)) else _) = some (r, X') ∧ (if true = true then (bd (f_X7_takeHall M2) fun r85 => some (r85 0 6, r85)) else _) = some (r, M') ∧ Inv X' M'
    unfold f_X2_forget
    rw [z1, if_pos (show ov none = -9 from rfl), if_pos rfl, v1, bd_s, bd_s, u1, bd_s]
    obtain ⟨X4, hX4⟩ : ∃ X4, X4 = up (up X3 4 0 (0 : Int32)) 3 6 (-1 : Int32) := ⟨_, rfl⟩
    rw [← hX4]
    have f4 : ∀ a, a ≠ 3 → a ≠ 4 → X4 a = X3 a := fun a x y => by rw [hX4, up_ne _ _ _ _ x, up_ne _ _ _ _ y]
    have f4x : ∀ a, a ≠ 1 → a ≠ 2 → a ≠ 3 → a ≠ 4 → a < 22 → X4 a = X a := fun a b c d e f => by rw [f4 a d e, v5 a b (Or.inl f), fx a c (by omega)]
    have e36 : X4 3 6 = -1 := by rw [hX4, up_row, if_pos rfl]
    have e40 : X4 4 0 = 0 := by rw [hX4, up_ne _ _ _ _ (by decide), up_row, if_pos rfl]
    have hxh : XH X4 (tD T n) := v2.fr (fun a ha => f4 a (by omega) (by omega))
    have em : ∀ a, a = 1 ∨ a = 2 ∨ a = 3 → M3 a = M a := fun a ha => by rw [u7 a (by omega), fm a (by omega) (by omega) (by omega)]
    have em0 : ∀ j, j = 0 ∨ j = 1 → M3 0 j = M 0 j := fun j hj => by rw [u8 j (by omega) (by omega) (by omega) (by omega), fm0 j (by omega) (by omega) (by omega)]
    refine ⟨nI (tS T n (tL T)), X4, M3, ?_, ?_, tD T n, fun _ => 0, 0, fun _ => 0, fun _ => 0, ⟨gD, hxh, u2, fun _ => gn⟩, fun l hl => ⟨?_, ?_, ?_⟩, ⟨fun s hs => ?_, ?_⟩, h4.fr (by rw [f4x 0 (by decide) (by decide) (by decide) (by decide) (by decide)]) (by rw [f4x 0 (by decide) (by decide) (by decide) (by decide) (by decide)]) (em0 0 (by decide)) (em0 1 (by decide)), ⟨by decide, e40, u6, fun q hq => absurd hq (Nat.not_lt_zero q)⟩, h6.fr (fun a b c => f4x a (by omega) (by omega) (by omega) (by omega) (by omega)) em, Or.inl e36⟩
    · rw [show X4 1 3 = nI (tS T n (tL T)) from hxh.2.1]
    · rw [show M3 0 6 = nI (tS T n (tL T)) from u2.2.1]
    · rw [f4 23 (by decide) (by decide)]
      exact v3 l hl
    · exact u3 l hl
    · have := gD.2.2.1 l hl
      show 0 < sh (tD T n) l
      omega
    · rw [f4 27 (by decide) (by decide), v4 s hs, u4 s hs]
    · rw [u5, f4 27 (by decide) (by decide)]
      exact ((sumI_cong (g := fun _ => 0) (n := tS T n (tL T)) (fun s hs => v4 s hs)).trans (sumI_zero _)).symm
  · subst z0
    have hq := tF_le z1
    show ∃ (r : Int32) (X' M' : St), (if ov (tF T n) = ((-9 : Int32)) then _ else (some (((-100 : Int32)) - ov (tF T n), X2))) = some (r, X') ∧ (if false = true then _ else (some (((-100 : Int32)) - ((M2 0 14) - (nI (60 * k + i))), M2))) = some (r, M') ∧ Inv X' M'
    rw [z1, if_neg (ov_some (by omega)), if_neg (show ¬ false = true by decide), z2, pk_sub (by omega), show 60 * k + i + q - (60 * k + i) = q by omega]
    refine ⟨_, X2, M2, rfl, rfl, D, nw, nr, rs, rl, h1.fr (fun a ha => fx a (by omega) (by omega)) (fm0 5 (by decide) (by decide) (by decide)) (fm0 6 (by decide) (by decide) (by decide)) (fun a ha => fm a (by omega) (by omega) (by omega)), h2.fr (fx 23 (by decide) (by decide)) (fm 5 (by decide) (by decide) (by decide)), h3'.fr (fx 27 (by decide) (by decide)) (fm 9 (by decide) (by decide) (by decide)) (fm0 7 (by decide) (by decide) (by decide)), h4.fr (by rw [fx 0 (by decide) (by decide)]) (by rw [fx 0 (by decide) (by decide)]) (fm0 0 (by decide) (by decide) (by decide)) (fm0 1 (by decide) (by decide) (by decide)), h5.fr (by rw [fx 4 (by decide) (by decide)]) (fun a ha => fx a (by omega) (by omega)) (fm0 24 (by decide) (by decide) (by decide)) (fun a ha => fm a (by omega) (by omega) (by omega)), h6.fr (fun a b c => fx a (by omega) (by omega)) (fun a ha => fm a (by omega) (by omega) (by omega)), h7.fr (fun a ha => fx a (by omega) (by omega)) g⟩
theorem sim_hall : Sim_hall Inv := by
  intro Sx Sm a0 a1 a2 a3 h0
  unfold f_X6_hall f_X7_hall
  have h := h0.fault 0
  generalize up Sx 0 8 (0 : Int32) = X at h ⊢
  generalize up Sm 0 0 (0 : Int32) = M at h ⊢
  obtain ⟨D, nw, nr, rs, rl, hI⟩ := id h
  obtain ⟨h1, h2, h3, h4, h5, h6, h7⟩ := id hI
  rcases nix2 a0 (n := 4) (by decide) with ha | ⟨k, hk, rfl⟩
  · rw [X_sheetAt0 ha, M_isSheet0 ha, bd_s, bd_s, op_0, if_neg (by decide)]
    exact ⟨_, X, M, rfl, rfl, h⟩
  have hsh : shX (8 + k) := ⟨by omega, by omega⟩
  rw [X_sheetAt1 hk, M_isSheet1 hk, bd_s, bd_s, op_1, if_pos rfl, ck_t hsh, X_lane, M_sort, bd_s, bd_s]
  by_cases hl : inB a1 0 2 = true
  · rw [if_pos hl, if_pos hl]
    have fl : ∀ c, ¬ c = 0 → j_X6_hall_69 X a2 a3 (8 + k) c = some (-10 - c, up X 0 8 c) := fun c hc => by
      unfold j_X6_hall_69 f_X6_faulted
      rw [if_neg hc]
      rfl
    have fl2 : ∀ c, ¬ c = 0 → j_X6_hall_50 X a2 a3 (8 + k) c = some (-10 - c, up X 0 8 c) := fun c hc => by
      unfold j_X6_hall_50
      rw [if_neg hc, fl c hc]
    unfold f_X7_fails
    rcases h6 k hk with ⟨e1, e2⟩ | ⟨z, la, hz, hla, e1, e2, e3, e4, e5⟩
    · rw [X_faultAs0 hsh e1, M_against0 hk e2]
      simp only [bd_s, if_neg (show ¬ (1 : Int32) = 0 by decide)]
      rw [fl2 1 (by decide)]
      exact ⟨_, _, _, rfl, rfl, h.fault 1⟩
    rw [X_faultAs1 hsh e1 hz e3, M_against1 hk hz hla e4 e2]
    by_cases el : nI la = a1
    · simp only [if_pos el, bd_s, if_true, if_pos (show (0 : Int32) = 0 from rfl)]
      by_cases hn : a3 < 0
      · rw [if_neg (show ¬ (0 : Int32) ≤ a3 by rw [Int32.le_iff_toInt_le]; rw [Int32.lt_iff_toInt_lt] at hn; omega), if_pos hn, if_neg (by decide), fl2 4 (by decide)]
        exact ⟨_, _, _, rfl, rfl, h.fault 4⟩
      · rw [if_pos (show (0 : Int32) ≤ a3 by rw [Int32.le_iff_toInt_le]; rw [Int32.lt_iff_toInt_lt] at hn; omega), if_neg hn]
        unfold j_X6_hall_50
        rw [if_pos rfl, X_hasCells hsh e1, bd_s]
        by_cases hc : hcB z a2 a3 = true
        · rw [if_pos hc, if_pos hc, if_pos rfl]
          obtain ⟨i, n, rfl, rfl, hin⟩ := hcB_t hz hc
          unfold j_X6_hall_69
          rw [if_pos rfl, show (60 : Int32) * nI k + nI i = nI (60 * k + i) by rw [show (60 : Int32) * nI k = nI (60 * k) from pk_mul 60 k, nI_add], nI_add]
          exact hall_core hI hk hz e1 hin e5
        · rw [if_neg hc, if_neg hc, if_neg (by decide), fl 3 (by decide)]
          exact ⟨_, _, _, rfl, rfl, h.fault 3⟩
    · simp only [if_neg el, bd_s, if_neg (show ¬ (2 : Int32) = 0 by decide)]
      rw [fl2 2 (by decide)]
      exact ⟨_, _, _, rfl, rfl, h.fault 2⟩
  · rw [if_neg hl, if_neg hl]
    exact ⟨_, X, M, rfl, rfl, h⟩
