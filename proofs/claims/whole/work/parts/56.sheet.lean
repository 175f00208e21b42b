/-! sheets -/
theorem X_sheetAt0 {S : St} {a : Int32} (ha : a < 0 ∨ (¬ a < 0 ∧ nI 4 ≤ a)) : f_X6_sheetAt S a = some none := by
  unfold f_X6_sheetAt
  rcases ha with ha | ⟨ha, hb⟩
  · rw [if_pos ha]
  · rw [if_neg ha, if_pos (show (4 : Int32) ≤ a from hb)]
theorem X_sheetAt1 {S : St} {k : Nat} (hk : k < 4) : f_X6_sheetAt S (nI k) = some (some (8 + k)) := by
  unfold f_X6_sheetAt
  rw [if_neg (nnot0 (by omega)), n4, if_neg (by rw [nle (by decide) (by omega)]; omega), ck_t (okn hk (by decide)), ixn (by omega)]
theorem M_isSheet0 {a : Int32} (ha : a < 0 ∨ (¬ a < 0 ∧ nI 4 ≤ a)) : f_X7_isSheet a = some false := by
  unfold f_X7_isSheet
  rw [M_in, bd_s]
  unfold inB
  rcases ha with ha | ⟨ha, hb⟩
  · rw [if_pos ha]
  · rw [if_neg ha, if_pos]
    rw [Int32.le_iff_toInt_le, nI_toInt (by decide)] at hb
    rw [Int32.lt_iff_toInt_lt, show (3 : Int32).toInt = 3 from rfl]
    omega
theorem M_isSheet1 {k : Nat} (hk : k < 4) : f_X7_isSheet (nI k) = some true := by
  unfold f_X7_isSheet
  rw [M_in, bd_s, inB_of (nnot0 (by omega)) (by rw [n3, nlt (by decide) (by omega)]; omega)]
theorem X_lane (a : Int32) : f_X6_isLane a = some (inB a 0 2) := by unfold f_X6_isLane; rw [X_in, bd_s]
theorem M_sort (a : Int32) : f_X7_isSort a = some (inB a 0 2) := by unfold f_X7_isSort; rw [M_in, bd_s]
theorem X_noth1 {S : St} {k : Nat} (hk : shX k) (h : S k 2 = -1) : f_X4_isNothing S k = some true := by
  unfold f_X4_isNothing
  rw [ck_t hk, if_pos h]
theorem X_noth0 {S : St} {k z : Nat} (hk : shX k) (h : S k 2 = nI z) (hz : z ≤ 60) : f_X4_isNothing S k = some false := by
  unfold f_X4_isNothing
  rw [ck_t hk, h, if_neg (nneg_ne (by omega) (by decide))]
def hcB (z : Nat) (i n : Int32) : Bool := if i < 0 then false else if nI z < i then false else if n < 0 then false else if nI z - i < n then false else true
theorem X_hasCells {S : St} {k z : Nat} (hk : shX k) (h : S k 2 = nI z) (i n : Int32) : f_X4_hasCells S k i n = some (hcB z i n) := by
  unfold f_X4_hasCells hcB
  rw [ck_t hk, h]
  by_cases h1 : i < 0
  · simp only [if_pos h1]
  simp only [if_neg h1]
  by_cases h2 : nI z < i
  · simp only [if_pos h2]
  simp only [if_neg h2]
  by_cases h3 : n < 0
  · simp only [if_pos h3]
  simp only [if_neg h3]
  by_cases h4 : nI z - i < n
  · simp only [if_pos h4]
  simp only [if_neg h4]
theorem hcB_t {z : Nat} (hz : z ≤ 60) {i n : Int32} (h : hcB z i n = true) : ∃ a b : Nat, i = nI a ∧ n = nI b ∧ a + b ≤ z := by
  unfold hcB at h
  by_cases h1 : i < 0
  · rw [if_pos h1] at h; cases h
  rw [if_neg h1] at h
  by_cases h2 : nI z < i
  · rw [if_pos h2] at h; cases h
  rw [if_neg h2] at h
  by_cases h3 : n < 0
  · rw [if_pos h3] at h; cases h
  rw [if_neg h3] at h
  by_cases h4 : nI z - i < n
  · rw [if_pos h4] at h; cases h
  obtain ⟨a, ha, rfl⟩ := nI_of h1
  obtain ⟨b, hb, rfl⟩ := nI_of h3
  rw [nlt (by omega) (by omega)] at h2
  rw [pk_sub (by omega), nlt (by omega) (by omega)] at h4
  exact ⟨a, b, rfl, rfl, by omega⟩
theorem hcB_of {z a b : Nat} (hz : z ≤ 60) (h : a + b ≤ z) : hcB z (nI a) (nI b) = true := by
  unfold hcB
  rw [if_neg (nnot0 (by omega)), if_neg (by rw [nlt (by omega) (by omega)]; omega), if_neg (nnot0 (by omega)), pk_sub (by omega), if_neg (by rw [nlt (by omega) (by omega)]; omega)]
theorem X_at {S : St} {k z i : Nat} (hk : shX k) (h : S k 2 = nI z) (hz : z ≤ 60) (hi : i < z) : f_X4_at S k (nI i) = some (S (k + 4) i) := by
  unfold f_X4_at
  rw [ck_t hk, X_hasCells hk h, show hcB z (nI i) (1 : Int32) = true from hcB_of (b := 1) hz (by omega), bd_s, if_neg (by decide), ck_t (okn (by omega) (by decide)), ixn (by omega)]
theorem hc1 {z : Nat} (hz : z ≤ 60) (i : Int32) : hcB z i 1 = inB i 0 (nI z - 1) := by
  have e : (nI z - 1 : Int32).toInt = (z : Int) - (1 : Nat) := pk_sub_toInt (a := z) (b := 1) (by omega) (by decide)
  rcases nix i (n := z) (by omega) with h | ⟨h, h'⟩ | ⟨j, hj, rfl⟩
  · unfold hcB inB
    rw [if_pos h, if_pos h]
  · have hc : hcB z i 1 = false := by
      by_cases q : hcB z i 1 = true
      · obtain ⟨a, b, rfl, hb, hab⟩ := hcB_t hz q
        rw [nle (by omega) (by omega)] at h'
        have : b = 1 := by
          have := congrArg Int32.toInt hb
          rw [nI_toInt (by omega), show (1 : Int32).toInt = 1 from rfl] at this
          omega
        omega
      · simpa using q
    rw [hc]
    unfold inB
    rw [if_neg h, if_pos]
    rw [Int32.le_iff_toInt_le, nI_toInt (by omega)] at h'
    rw [Int32.lt_iff_toInt_lt, e]
    omega
  · rw [show hcB z (nI j) (1 : Int32) = true from hcB_of (b := 1) hz (by omega), inB_of (nnot0 (by omega))]
    rw [Int32.lt_iff_toInt_lt, e, nI_toInt (by omega)]
    omega
/-- sheets changed on both sides -/
theorem Inv.sheetTo {D : HD} {nw : Nat → Nat} {nr : Nat} {rs rl : Nat → Nat} {Sx Sm Sx' Sm' : St} (h : InvD D nw nr rs rl Sx Sm) (h6 : I6 Sx' Sm') (ex : ∀ a, (a < 8 ∨ 16 ≤ a) → Sx' a = Sx a) (em : ∀ a, a ≠ 1 → a ≠ 2 → a ≠ 3 → Sm' a = Sm a) : InvD D nw nr rs rl Sx' Sm' := by
  obtain ⟨h1, h2, h3, h4, h5, -, h7⟩ := h
  have x0 := ex 0 (by decide)
  have m0 := em 0 (by decide) (by decide) (by decide)
  exact ⟨h1.fr (fun a ha => ex a (by omega)) (by rw [m0]) (by rw [m0]) (fun a ha => em a (by omega) (by omega) (by omega)), h2.fr (ex 23 (by decide)) (em 5 (by decide) (by decide) (by decide)), h3.fr (ex 27 (by decide)) (em 9 (by decide) (by decide) (by decide)) (by rw [m0]), h4.fr (by rw [x0]) (by rw [x0]) (by rw [m0]) (by rw [m0]), h5.fr (by rw [ex 4 (by decide)]) (fun a ha => ex a (by omega)) (by rw [m0]) (fun a ha => em a (by omega) (by omega) (by omega)), h6, h7.fr (fun a ha => ex a (by omega)) h1.1⟩
theorem sim_lose : Sim_lose Inv := by
  intro Sx Sm a0 h
  obtain ⟨D, nw, nr, rs, rl, hI⟩ := id h
  obtain ⟨h1, h2, h3, h4, h5, h6, h7⟩ := id hI
  unfold f_X6_lose f_X7_lose
  rcases nix2 a0 (n := 4) (by decide) with ha | ⟨k, hk, rfl⟩
  · rw [X_sheetAt0 ha, M_isSheet0 ha, bd_s, bd_s, op_0, if_neg (by decide)]
    exact ⟨_, Sx, Sm, rfl, rfl, h⟩
  have hsh : shX (8 + k) := ⟨by omega, by omega⟩
  rw [X_sheetAt1 hk, M_isSheet1 hk, bd_s, bd_s, op_1, if_pos rfl, ck_t hsh]
  simp only [ck_t (okn hk (by decide)), ixn (j := k) (by omega)]
  rcases h6 k hk with ⟨e1, e2⟩ | ⟨z, la, hz, hla, e1, e2, e3, e4, e5⟩
  · rw [X_noth1 hsh e1, bd_s, if_neg (by decide), if_pos e2]
    refine ⟨_, Sx, _, rfl, rfl, D, nw, nr, rs, rl, ?_⟩
    rw [← e2, up_self]
    exact hI
  · rw [X_noth0 hsh e1 hz, bd_s, if_pos rfl, if_neg (by rw [e4]; exact nneg_ne (by omega) (by decide))]
    unfold f_X4_end
    rw [ck_t hsh, bd_s]
    refine ⟨_, _, _, rfl, rfl, D, nw, nr, rs, rl, Inv.sheetTo hI (fun k' hk' => ?_) (fun a ha => up_ne _ _ _ _ (by omega)) (fun a ha _ _ => up_ne _ _ _ _ ha)⟩
    by_cases e : k' = k
    · subst e
      left
      rw [up_ap, up_ap, if_pos rfl, if_pos rfl, if_pos rfl, if_pos rfl]
      exact ⟨rfl, rfl⟩
    · unfold ShR
      rw [up_ne _ _ _ _ (show 8 + k' ≠ 8 + k by omega), up_ne _ _ _ _ (show 12 + k' ≠ 8 + k by omega), up_ap, if_pos rfl, if_neg e, up_ne Sm 1 _ _ (show 2 ≠ 1 by decide), up_ne Sm 1 _ _ (show 3 ≠ 1 by decide)]
      exact h6 k' hk'
theorem X_cut {S : St} {k la : Nat} (hk : shX k) (h : S k 0 = nI la) (v : Int32) : f_X4_cut S k v = some (if nI la = 0 then v.toInt8.toInt32 else if nI la = 1 then v.toInt16.toInt32 else v) := by
  unfold f_X4_cut
  rw [ck_t hk, h]
  by_cases h0 : nI la = 0
  · simp only [if_pos h0]
  simp only [if_neg h0]
  by_cases h1 : nI la = 1
  · simp only [if_pos h1]
  simp only [if_neg h1]
theorem flat_ok {k i : Nat} (hk : k < 4) (hi : i < 60) : (60 : Int32) * nI k + nI i = nI (60 * k + i) := by
  rw [show (60 : Int32) * nI k = nI (60 * k) from pk_mul 60 k, nI_add]
theorem sim_put : Sim_put Inv := by
  intro Sx Sm a0 a1 a2 h0
  unfold f_X6_put f_X7_put
  have h := h0.fault 0
  generalize up Sx 0 8 (0 : Int32) = X at h ⊢
  generalize up Sm 0 0 (0 : Int32) = M at h ⊢
  obtain ⟨D, nw, nr, rs, rl, hI⟩ := id h
  obtain ⟨h1, h2, h3, h4, h5, h6, h7⟩ := id hI
  rcases nix2 a0 (n := 4) (by decide) with ha | ⟨k, hk, rfl⟩
  · rw [X_sheetAt0 ha, M_isSheet0 ha, bd_s, bd_s, op_0, if_neg (by decide)]
    exact ⟨_, X, M, rfl, rfl, h⟩
  have hsh : shX (8 + k) := ⟨by omega, by omega⟩
  rw [X_sheetAt1 hk, M_isSheet1 hk, bd_s, bd_s, op_1, if_pos rfl, ck_t hsh]
  simp only [ck_t (okn hk (by decide)), ixn (j := k) (by omega), f_X6_faulted, f_X7_fails, M_in, bd_s]
  rcases h6 k hk with ⟨e1, e2⟩ | ⟨z, la, hz, hla, e1, e2, e3, e4, e5⟩
  · rw [X_noth1 hsh e1, bd_s, if_neg (by decide), if_pos e2]
    exact ⟨_, _, _, rfl, rfl, h.fault 1⟩
  rw [X_noth0 hsh e1 hz, bd_s, if_pos rfl, e4, if_neg (nneg_ne (by omega) (by decide)), X_hasCells hsh e1, bd_s, e2, hc1 hz]
  by_cases hc : inB a1 0 (nI z - 1) = true
  · rw [hc, if_pos rfl, if_pos rfl]
    rw [← hc1 hz] at hc
    obtain ⟨i, b, rfl, hb, hib⟩ := hcB_t hz hc
    have hb1 : b = 1 := by
      have := congrArg Int32.toInt hb
      rw [nI_toInt (by omega), show (1 : Int32).toInt = 1 from rfl] at this
      omega
    subst hb1
    unfold f_X4_set
    rw [ck_t hsh, X_hasCells hsh e1, hc, bd_s, if_neg (by decide), X_cut hsh e3, bd_s, ck_t (okn (j := i) (by omega) (by decide)), ixn (j := i) (by omega), bd_s]
    simp only [flat_ok hk (show i < 60 by omega), ck_t (okn (j := 60 * k + i) (n := 240) (by omega) (by decide)), ixn (j := 60 * k + i) (by omega)]
    have key : ∀ v : Int32, Inv (up X (8 + k + 4) i v) (up M 3 (60 * k + i) v) := by
      intro v
      refine ⟨D, nw, nr, rs, rl, Inv.sheetTo hI (fun k' hk' => ?_) (fun a ha => up_ne _ _ _ _ (by omega)) (fun a _ _ ha => up_ne _ _ _ _ ha)⟩
      unfold ShR
      rw [up_ne X _ _ _ (show 8 + k' ≠ 8 + k + 4 by omega), up_ne M _ _ _ (show 1 ≠ 3 by decide), up_ne M _ _ _ (show 2 ≠ 3 by decide)]
      by_cases e : k' = k
      · subst e
        right
        refine ⟨z, la, hz, hla, e1, e2, e3, e4, fun q hq => ?_⟩
        rw [up_ap, up_ap, if_pos (by omega), if_pos rfl]
        by_cases eq : q = i
        · rw [if_pos eq, if_pos (by omega)]
        · rw [if_neg eq, if_neg (by omega), show 8 + k' + 4 = 12 + k' by omega]
          exact e5 q hq
      · rcases h6 k' hk' with h | ⟨z', la', hz', hla', f1, f2, f3, f4, f5⟩
        · exact Or.inl h
        · refine Or.inr ⟨z', la', hz', hla', f1, f2, f3, f4, fun q hq => ?_⟩
          rw [up_ne _ _ _ _ (by omega), up_ap, if_pos rfl, if_neg (by omega)]
          exact f5 q hq
    by_cases l0 : nI la = 0
    · simp only [if_pos l0]
      exact ⟨_, _, _, rfl, rfl, key _⟩
    simp only [if_neg l0]
    by_cases l1 : nI la = 1
    · simp only [if_pos l1]
      exact ⟨_, _, _, rfl, rfl, key _⟩
    simp only [if_neg l1]
    exact ⟨_, _, _, rfl, rfl, key _⟩
  · rw [if_neg hc, if_neg hc]
    exact ⟨_, _, _, rfl, rfl, h.fault 3⟩
theorem X_faultAs0 {S : St} {k : Nat} (hk : shX k) (h : S k 2 = -1) (a : Int32) : f_X4_faultAs S k a = some 1 := by
  unfold f_X4_faultAs
  rw [ck_t hk, X_noth1 hk h, bd_s, if_neg (by decide)]
theorem X_faultAs1 {S : St} {k z la : Nat} (hk : shX k) (h : S k 2 = nI z) (hz : z ≤ 60) (hl : S k 0 = nI la) (a : Int32) : f_X4_faultAs S k a = some (if nI la = a then 0 else 2) := by
  unfold f_X4_faultAs
  rw [ck_t hk, X_noth0 hk h hz, bd_s, if_pos rfl, hl]
  by_cases e : nI la = a
  · rw [if_pos e, if_pos e]
  · rw [if_neg e, if_neg e]
theorem X_foc0 {S : St} {k : Nat} (hk : shX k) (h : S k 2 = -1) (a i n : Int32) : f_X4_faultOfCells S k a i n = some 1 := by
  unfold f_X4_faultOfCells
  rw [ck_t hk, X_faultAs0 hk h, bd_s, if_neg (by decide)]
theorem X_foc1 {S : St} {k z la : Nat} (hk : shX k) (h : S k 2 = nI z) (hz : z ≤ 60) (hl : S k 0 = nI la) (a i n : Int32) : f_X4_faultOfCells S k a i n = some (if nI la = a then (if hcB z i n = true then 0 else 3) else 2) := by
  unfold f_X4_faultOfCells
  rw [ck_t hk, X_faultAs1 hk h hz hl, bd_s]
  by_cases e : nI la = a
  · rw [if_pos e, if_pos rfl, X_hasCells hk h, bd_s, if_pos e]
    by_cases c : hcB z i n = true
    · rw [if_pos c, if_pos c]
    · rw [if_neg c, if_neg c]
  · rw [if_neg e, if_neg (by decide), if_neg e]
theorem sim_cell : Sim_cell Inv := by
  intro Sx Sm a0 a1 a2 h0
  unfold f_X6_cell f_X7_cell
  have h := h0.fault 0
  generalize up Sx 0 8 (0 : Int32) = X at h ⊢
  generalize up Sm 0 0 (0 : Int32) = M at h ⊢
  obtain ⟨D, nw, nr, rs, rl, hI⟩ := id h
  obtain ⟨h1, h2, h3, h4, h5, h6, h7⟩ := id hI
  rcases nix2 a0 (n := 4) (by decide) with ha | ⟨k, hk, rfl⟩
  · rw [X_sheetAt0 ha, M_isSheet0 ha, bd_s, bd_s, op_0, if_pos rfl]
    exact ⟨_, X, M, rfl, rfl, h⟩
  have hsh : shX (8 + k) := ⟨by omega, by omega⟩
  rw [X_sheetAt1 hk, M_isSheet1 hk, bd_s, bd_s, op_1, if_neg (by decide), ck_t hsh, X_lane, M_sort, bd_s, bd_s]
  by_cases hl : inB a2 0 2 = true
  · rw [hl, if_pos rfl, if_pos rfl]
    simp only [j_X7_cell_50, ck_t (okn hk (by decide)), ixn (j := k) (by omega), f_X7_lost, M_in, bd_s]
    rcases h6 k hk with ⟨e1, e2⟩ | ⟨z, la, hz, hla, e1, e2, e3, e4, e5⟩
    · rw [X_foc0 hsh e1, bd_s, if_neg (by decide)]
      simp only [if_pos e2]
      exact ⟨_, _, _, rfl, rfl, h.fault 1⟩
    rw [X_foc1 hsh e1 hz e3, bd_s, e4]
    simp only [if_neg (nneg_ne (a := la) (by omega) (show (-9 : Int32).toInt < 0 by decide)), e2, ← hc1 hz]
    by_cases el : nI la = a2
    · simp only [if_pos el]
      by_cases hc : hcB z a1 1 = true
      · simp only [if_pos hc]
        obtain ⟨i, b, rfl, hb, hib⟩ := hcB_t hz hc
        have hb1 : b = 1 := by
          have := congrArg Int32.toInt hb
          rw [nI_toInt (by omega), show (1 : Int32).toInt = 1 from rfl] at this
          omega
        rw [if_pos trivial, X_at hsh e1 hz (by omega), bd_s, flat_ok hk (show i < 60 by omega), ck_t (okn (j := 60 * k + i) (n := 240) (by omega) (by decide)), ixn (j := 60 * k + i) (by omega), show 8 + k + 4 = 12 + k by omega, e5 i (by omega)]
        exact ⟨_, _, _, rfl, rfl, h⟩
      · simp only [if_neg hc]
        rw [if_neg (by decide)]
        refine ⟨_, _, _, rfl, rfl, ?_⟩
        exact h.fault 3
    · simp only [if_neg el]
      rw [if_neg (by decide)]
      exact ⟨_, _, _, rfl, rfl, h.fault 2⟩
  · rw [if_neg hl, if_neg hl]
    exact ⟨_, X, M, rfl, rfl, h⟩
