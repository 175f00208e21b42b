/-! which lamps, which switches there are -/
theorem X_lamp0 {S : St} {D : HD} (h : XH S D) {a : Int32} (ha : a < 0 ∨ (¬ a < 0 ∧ nI (nl D) ≤ a)) : f_X1_hasLamp S a = some false := by
  unfold f_X1_hasLamp
  rcases ha with ha | ⟨ha, hb⟩
  · rw [if_pos ha]
  · rw [if_neg ha, h.1, if_pos hb]
theorem X_lamp1 {S : St} {D : HD} (h : XH S D) (g : GH D) {j : Nat} (hj : j < nl D) : f_X1_hasLamp S (nI j) = some true := by
  have := g.1
  unfold f_X1_hasLamp
  rw [if_neg (nnot0 (by omega)), h.1, if_neg (by rw [nle (by omega) (by omega)]; omega)]
theorem M_lamp0 {S : St} {D : HD} (h : MH S D) {a : Int32} (ha : a < 0 ∨ (¬ a < 0 ∧ nI (nl D) ≤ a)) : f_X7_isLamp S a = some false := by
  unfold f_X7_isLamp
  rcases ha with ha | ⟨ha, hb⟩
  · rw [if_pos ha]
  · rw [if_neg ha, h.1, if_pos hb]
theorem M_lamp1 {S : St} {D : HD} (h : MH S D) (g : GH D) {j : Nat} (hj : j < nl D) : f_X7_isLamp S (nI j) = some true := by
  have := g.1
  unfold f_X7_isLamp
  rw [if_neg (nnot0 (by omega)), h.1, if_neg (by rw [nle (by omega) (by omega)]; omega)]
theorem X_sw0 {S : St} {D : HD} (h : XH S D) {a : Int32} (ha : a < 0 ∨ (¬ a < 0 ∧ nI (ns D) ≤ a)) : f_X1_hasSwitch S a = some false := by
  unfold f_X1_hasSwitch
  rcases ha with ha | ⟨ha, hb⟩
  · rw [if_pos ha]
  · rw [if_neg ha, h.2.1, if_pos hb]
theorem X_sw1 {S : St} {D : HD} (h : XH S D) (g : GH D) {j : Nat} (hj : j < ns D) : f_X1_hasSwitch S (nI j) = some true := by
  have := g.2.1
  unfold f_X1_hasSwitch
  rw [if_neg (nnot0 (by omega)), h.2.1, if_neg (by rw [nle (by omega) (by omega)]; omega)]
theorem M_sw0 {S : St} {D : HD} (h : MH S D) {a : Int32} (ha : a < 0 ∨ (¬ a < 0 ∧ nI (ns D) ≤ a)) : f_X7_isSwitch S a = some false := by
  unfold f_X7_isSwitch
  rcases ha with ha | ⟨ha, hb⟩
  · rw [if_pos ha]
  · rw [if_neg ha, h.2.1, if_pos hb]
theorem M_sw1 {S : St} {D : HD} (h : MH S D) (g : GH D) {j : Nat} (hj : j < ns D) : f_X7_isSwitch S (nI j) = some true := by
  have := g.2.1
  unfold f_X7_isSwitch
  rw [if_neg (nnot0 (by omega)), h.2.1, if_neg (by rw [nle (by omega) (by omega)]; omega)]
/-- a number is one of a set of n, or not -/
theorem nix2 (x : Int32) {n : Nat} (hn : n < 2 ^ 31) : (x < 0 ∨ (¬ x < 0 ∧ nI n ≤ x)) ∨ ∃ j : Nat, j < n ∧ x = nI j := by
  rcases nix x hn with h | h | h
  · exact Or.inl (Or.inl h)
  · exact Or.inl (Or.inr h)
  · exact Or.inr h
def inB (a b c : Int32) : Bool := if a < b then false else if c < a then false else true
theorem X_in (a b c : Int32) : f_X6_isIn a b c = some (inB a b c) := by
  unfold f_X6_isIn inB
  split
  · rfl
  · split <;> rfl
theorem M_in (a b c : Int32) : f_X7_within a b c = some (inB a b c) := by
  unfold f_X7_within inB
  split
  · rfl
  · split <;> rfl
theorem inB_t {a b c : Int32} (h : inB a b c = true) : ¬ a < b ∧ ¬ c < a := by
  unfold inB at h
  by_cases h1 : a < b
  · rw [if_pos h1] at h; cases h
  · rw [if_neg h1] at h
    by_cases h2 : c < a
    · rw [if_pos h2] at h; cases h
    · exact ⟨h1, h2⟩
theorem inB_of {a b c : Int32} (h1 : ¬ a < b) (h2 : ¬ c < a) : inB a b c = true := by
  unfold inB
  rw [if_neg h1, if_neg h2]
/-- between 0 and n: a number -/
theorem inB_n {a : Int32} {n : Nat} (hn : n < 2 ^ 31) (h : inB a 0 (nI n) = true) : ∃ j : Nat, j ≤ n ∧ a = nI j := by
  obtain ⟨h1, h2⟩ := inB_t h
  exact nI_of2 (M := nI n) (nI_toInt hn) h1 (by rw [Int32.le_iff_toInt_le]; rw [Int32.lt_iff_toInt_lt] at h2; omega)
theorem sim_fault : Sim_fault Inv := by
  intro Sx Sm h
  obtain ⟨D, nw, nr, rs, rl, h1, h2, h3, h4, h5, h6, h7⟩ := id h
  exact ⟨Sx 0 8, Sx, Sm, ⟨rfl, rfl⟩, ⟨by unfold f_X7_fault; rw [h4.1], rfl⟩, h⟩
theorem sim_trace : Sim_trace Inv := by
  intro Sx Sm h
  obtain ⟨D, nw, nr, rs, rl, h1, h2, h3, h4, h5, h6, h7⟩ := id h
  exact ⟨Sx 0 7, Sx, Sm, ⟨rfl, rfl⟩, ⟨by unfold f_X7_trace; rw [h4.2], rfl⟩, h⟩
/-! the set of switches that are wired to a lamp -/
def swI (D : HD) (l : Nat) : Nat → Int32
  | 0 => 0
  | n + 1 => if (wr D n).testBit l then swI D l n ||| shl32 1 (nI n) else swI D l n
theorem X_swTo {S : St} {D : HD} (h : XH S D) (g : GH D) {l : Nat} (hl : l < nl D) : f_X1_switchesTo S (nI l) = some (swI D l (ns D)) := by
  have h5 := g.1
  have h6 := g.2.1
  unfold f_X1_switchesTo
  rw [iter_to (fun i => (swI D l i, nI i)) (ns D) (t := (swI D l (ns D), nI (ns D))) (by rfl), bd_s]
  · intro i hi
    show i_X1_switchesTo_4 S (nI l) (swI D l i) (nI i) = _
    unfold i_X1_switchesTo_4
    rw [h.2.1, if_neg (by rw [nle (by omega) (by omega)]; omega), X_wired h g hi (by omega), bd_s, swI, nadd1]
    by_cases hb : (wr D i).testBit l = true
    · rw [hb, if_neg (by decide), if_pos rfl]
    · simp only [Bool.not_eq_true] at hb
      rw [hb, if_pos rfl, if_neg (by decide)]
  · show i_X1_switchesTo_4 S (nI l) (swI D l (ns D)) (nI (ns D)) = _
    unfold i_X1_switchesTo_4
    rw [h.2.1, if_pos (by rw [nle (by omega) (by omega)]; omega)]
  · have := bigN; omega
theorem or0 (x : Int32) : x ||| (0 : Int32) = x := by
  apply Int32.toBitVec_inj.mp
  show x.toBitVec ||| 0#32 = x.toBitVec
  simp
theorem M_swTo {S : St} {D : HD} (h : MH S D) (g : GH D) {l : Nat} (hl : l < nl D) : f_X7_wiredTo S (nI l) = some (swI D l (ns D)) := by
  have h5 := g.1
  have h6 := g.2.1
  unfold f_X7_wiredTo
  rw [iter_to (fun i => (swI D l i, nI i)) (ns D) (t := (swI D l (ns D), nI (ns D))) (by rfl), bd_s]
  · intro i hi
    show i_X7_wiredTo_4 S (nI l) (swI D l i) (nI i) = _
    unfold i_X7_wiredTo_4
    rw [h.2.1, if_neg (by rw [nle (by omega) (by omega)]; omega), ck_t (okn (by omega) (by decide)), ixn (by omega), (h.2.2.2 i hi).2.2, M_isOf (g.2.2.2 i hi).2.2.2 (by omega), bd_s, swI, nadd1, or0]
    by_cases hb : (wr D i).testBit l = true
    · rw [hb, if_neg (by decide), if_pos rfl]
    · simp only [Bool.not_eq_true] at hb
      rw [hb, if_pos rfl, if_neg (by decide)]
  · show i_X7_wiredTo_4 S (nI l) (swI D l (ns D)) (nI (ns D)) = _
    unfold i_X7_wiredTo_4
    rw [h.2.1, if_pos (by rw [nle (by omega) (by omega)]; omega)]
  · have := bigN; omega
theorem sim_ofLamp : Sim_ofLamp Inv := by
  intro Sx Sm a0 a1 h
  obtain ⟨D, nw, nr, rs, rl, h1, h2, h3, h4, h5, h6, h7⟩ := id h
  obtain ⟨g, hx, hm, -⟩ := h1
  have hl5 := g.1
  unfold f_X6_ofLamp f_X7_ofLamp
  rcases nix2 a0 (n := nl D) (by omega) with ha | ⟨j, hj, rfl⟩
  · rw [X_lamp0 hx ha, M_lamp0 hm ha, bd_s, bd_s, if_neg (by decide), if_neg (by decide)]
    exact ⟨_, Sx, Sm, ⟨rfl, rfl⟩, ⟨rfl, rfl⟩, h⟩
  · rw [X_lamp1 hx g hj, M_lamp1 hm g hj, bd_s, bd_s, if_pos rfl, if_pos rfl]
    simp only [ck_t (okn (j := j) (n := 5) (by omega) (by decide)), ixn (j := j) (by omega), hx.2.2.1 j hj, hm.2.2.1 j hj, (h2 j hj).1, (h2 j hj).2.1, X_swTo hx g hj, M_swTo hm g hj, bd_s]
    by_cases w0 : a1 = 0
    · simp only [if_pos w0]
      exact ⟨_, Sx, Sm, ⟨rfl, rfl⟩, ⟨rfl, rfl⟩, h⟩
    · simp only [if_neg w0]
      by_cases w1 : a1 = 1
      · simp only [if_pos w1]
        exact ⟨_, Sx, Sm, ⟨rfl, rfl⟩, ⟨rfl, rfl⟩, h⟩
      · simp only [if_neg w1]
        by_cases w2 : a1 = 2
        · simp only [if_pos w2]
          exact ⟨_, Sx, Sm, ⟨rfl, rfl⟩, ⟨rfl, rfl⟩, h⟩
        · simp only [if_neg w2]
          exact ⟨_, Sx, Sm, ⟨rfl, rfl⟩, ⟨rfl, rfl⟩, h⟩
theorem sim_ofSwitch : Sim_ofSwitch Inv := by
  intro Sx Sm a0 a1 h
  obtain ⟨D, nw, nr, rs, rl, h1, h2, h3, h4, h5, h6, h7⟩ := id h
  obtain ⟨g, hx, hm, -⟩ := h1
  have hl5 := g.2.1
  unfold f_X6_ofSwitch f_X7_ofSwitch
  rcases nix2 a0 (n := ns D) (by omega) with ha | ⟨j, hj, rfl⟩
  · rw [X_sw0 hx ha, M_sw0 hm ha, bd_s, bd_s, if_neg (by decide), if_neg (by decide)]
    exact ⟨_, Sx, Sm, ⟨rfl, rfl⟩, ⟨rfl, rfl⟩, h⟩
  · rw [X_sw1 hx g hj, M_sw1 hm g hj, bd_s, bd_s, if_pos rfl, if_pos rfl]
    simp only [ck_t (okn (j := j) (n := 5) (by omega) (by decide)), ixn (j := j) (by omega), (hx.2.2.2 j hj).1, (hm.2.2.2 j hj).1, (hx.2.2.2 j hj).2.1, (hm.2.2.2 j hj).2.1, (hx.2.2.2 j hj).2.2, (hm.2.2.2 j hj).2.2, h3.1 j hj, X_moves hx g hj, M_moves hm g hj, bd_s]
    by_cases w0 : a1 = 0
    · simp only [if_pos w0]
      exact ⟨_, Sx, Sm, ⟨rfl, rfl⟩, ⟨rfl, rfl⟩, h⟩
    simp only [if_neg w0]
    by_cases w1 : a1 = 1
    · simp only [if_pos w1]
      exact ⟨_, Sx, Sm, ⟨rfl, rfl⟩, ⟨rfl, rfl⟩, h⟩
    simp only [if_neg w1]
    by_cases w2 : a1 = 2
    · simp only [if_pos w2]
      exact ⟨_, Sx, Sm, ⟨rfl, rfl⟩, ⟨rfl, rfl⟩, h⟩
    simp only [if_neg w2]
    by_cases w3 : a1 = 3
    · simp only [if_pos w3]
      exact ⟨_, Sx, Sm, ⟨rfl, rfl⟩, ⟨rfl, rfl⟩, h⟩
    simp only [if_neg w3]
    by_cases w4 : a1 = 4
    · simp only [if_pos w4]
      exact ⟨_, Sx, Sm, ⟨rfl, rfl⟩, ⟨rfl, rfl⟩, h⟩
    simp only [if_neg w4]
    exact ⟨_, Sx, Sm, ⟨rfl, rfl⟩, ⟨rfl, rfl⟩, h⟩
/-! what changes how all is now -/
theorem Inv.nowTo {D : HD} {nw : Nat → Nat} {nr : Nat} {rs rl : Nat → Nat} {Sx Sm Sx' Sm' : St} (h : InvD D nw nr rs rl Sx Sm) (nw' : Nat → Nat) (hn : ∀ l, l < nl D → Sx' 23 l = nI (nw' l) ∧ Sm' 5 l = nI (nw' l) ∧ nw' l < sh D l) (ex : ∀ a, a ≠ 23 → Sx' a = Sx a) (em : ∀ a, a ≠ 5 → Sm' a = Sm a) : InvD D nw' nr rs rl Sx' Sm' := by
  obtain ⟨h1, h2, h3, h4, h5, h6, h7⟩ := h
  have e0 := ex 0 (by decide)
  have f0 := em 0 (by decide)
  refine ⟨h1.fr (fun a ha => ex a (by omega)) (by rw [f0]) (by rw [f0]) (fun a ha => em a (by omega)), hn, h3.fr (ex 27 (by decide)) (em 9 (by decide)) (by rw [f0]), h4.fr (by rw [e0]) (by rw [e0]) (by rw [f0]) (by rw [f0]), h5.fr (by rw [ex 4 (by decide)]) (fun a ha => ex a (by omega)) (by rw [f0]) (fun a ha => em a (by omega)), h6.fr (fun a h8 h16 => ex a (by omega)) (fun a ha => em a (by omega)), h7.fr (fun a ha => ex a (by omega)) h1.1⟩
theorem X_hasShade {S : St} {D : HD} (h : XH S D) (g : GH D) {j : Nat} (hj : j < nl D) (v : Int32) : f_X1_hasShade S (nI j) v = some (inB v 0 (nI (sh D j) - 1)) := by
  have h5 := g.1
  have hs := g.2.2.1 j hj
  unfold f_X1_hasShade inB
  rw [X_lamp1 h g hj, bd_s, if_neg (by decide)]
  by_cases h0 : v < 0
  · rw [if_pos h0, if_pos h0]
  · rw [if_neg h0, if_neg h0, ck_t (okn (by omega) (by decide)), ixn (by omega), h.2.2.1 j hj]
    have e : nI (sh D j) - 1 = nI (sh D j - 1) := by
      obtain ⟨q, hq⟩ : ∃ q, sh D j = q + 1 := ⟨sh D j - 1, by omega⟩
      rw [hq, nI_pred]
      rfl
    rw [e]
    by_cases h1 : nI (sh D j) ≤ v
    · rw [if_pos h1, if_pos]
      rw [Int32.le_iff_toInt_le, nI_toInt (by omega)] at h1
      rw [Int32.lt_iff_toInt_lt, nI_toInt (by omega)]
      omega
    · rw [if_neg h1, if_neg]
      rw [Int32.le_iff_toInt_le, nI_toInt (by omega)] at h1
      rw [Int32.lt_iff_toInt_lt, nI_toInt (by omega)]
      omega
theorem shade_of {n : Nat} (hn : n ≤ 5) (h0 : 1 ≤ n) {v : Int32} (h : inB v 0 (nI n - 1) = true) : ∃ q : Nat, q < n ∧ v = nI q := by
  have e : nI n - 1 = nI (n - 1) := by
    obtain ⟨q, hq⟩ : ∃ q, n = q + 1 := ⟨n - 1, by omega⟩
    rw [hq, nI_pred]
    rfl
  rw [e] at h
  obtain ⟨q, h1, h2⟩ := inB_n (by omega) h
  exact ⟨q, by omega, h2⟩
theorem sim_shade : Sim_shade Inv := by
  intro Sx Sm a0 a1 h
  obtain ⟨D, nw, nr, rs, rl, hI⟩ := id h
  obtain ⟨h1, h2, h3, h4, h5, h6, h7⟩ := id hI
  obtain ⟨g, hx, hm, -⟩ := h1
  have hl5 := g.1
  unfold f_X6_shade f_X7_shade
  rcases nix2 a0 (n := nl D) (by omega) with ha | ⟨j, hj, rfl⟩
  · rw [X_lamp0 hx ha, M_lamp0 hm ha, bd_s, bd_s, if_neg (by decide), if_neg (by decide)]
    exact ⟨_, Sx, Sm, rfl, rfl, h⟩
  · have hs := g.2.2.1 j hj
    rw [X_lamp1 hx g hj, M_lamp1 hm g hj, bd_s, bd_s, if_pos rfl, if_pos rfl]
    simp only [ck_t (okn (j := j) (n := 5) (by omega) (by decide)), ixn (j := j) (by omega), X_hasShade hx g hj, M_in, hm.2.2.1 j hj, bd_s, (h2 j hj).1, (h2 j hj).2.1]
    by_cases hv : inB a1 0 (nI (sh D j) - 1) = true
    · rw [hv, if_pos rfl, if_pos rfl]
      obtain ⟨q, hq, rfl⟩ := shade_of hs.2 (by omega) hv
      refine ⟨_, _, _, rfl, rfl, D, fun l => if l = j then q else nw l, nr, rs, rl, Inv.nowTo hI _ (fun l hl => ?_) (fun a ha => up_ne _ _ _ _ ha) (fun a ha => up_ne _ _ _ _ ha)⟩
      rw [up_ap, up_ap, if_pos rfl, if_pos rfl]
      by_cases e : l = j
      · subst e
        simp only [if_pos]
        exact ⟨trivial, trivial, hq⟩
      · simp only [if_neg e]
        exact h2 l hl
    · rw [if_neg hv, if_neg hv]
      exact ⟨_, Sx, Sm, rfl, rfl, h⟩
