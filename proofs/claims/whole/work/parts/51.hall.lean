/-! a hall: lamps, switches, shades, kinds, turns, wires -/
abbrev HD : Type := Nat × Nat × (Nat → Nat) × (Nat → Nat) × (Nat → Nat) × (Nat → Nat)
abbrev nl (D : HD) : Nat := D.1
abbrev ns (D : HD) : Nat := D.2.1
abbrev sh (D : HD) : Nat → Nat := D.2.2.1
abbrev kd (D : HD) : Nat → Nat := D.2.2.2.1
abbrev tn (D : HD) : Nat → Nat := D.2.2.2.2.1
abbrev wr (D : HD) : Nat → Nat := D.2.2.2.2.2
def GH (D : HD) : Prop := nl D ≤ 5 ∧ ns D ≤ 5 ∧ (∀ l, l < nl D → 2 ≤ sh D l ∧ sh D l ≤ 5) ∧ ∀ s, s < ns D → kd D s ≤ 2 ∧ 1 ≤ tn D s ∧ tn D s ≤ 4 ∧ wr D s < 32
def XH (S : St) (D : HD) : Prop := S 1 0 = nI (nl D) ∧ S 1 3 = nI (ns D) ∧ (∀ l, l < nl D → S 22 l = nI (sh D l)) ∧ ∀ s, s < ns D → S 24 s = nI (kd D s) ∧ S 25 s = nI (tn D s) ∧ S 26 s = nI (wr D s)
def MH (S : St) (D : HD) : Prop := S 0 5 = nI (nl D) ∧ S 0 6 = nI (ns D) ∧ (∀ l, l < nl D → S 4 l = nI (sh D l)) ∧ ∀ s, s < ns D → S 6 s = nI (kd D s) ∧ S 7 s = nI (tn D s) ∧ S 8 s = nI (wr D s)
/-- how many shades a switch turns on -/
def mo (D : HD) (s : Nat) : Nat := if kd D s = 1 then tn D s + 1 else if kd D s = 2 then 2 * tn D s else tn D s
/-- how far a lamp goes by a switch -/
def stp (D : HD) (s l : Nat) : Nat := if (wr D s).testBit l then mo D s % sh D l else 0
theorem mo_le {D : HD} (g : GH D) {s : Nat} (h : s < ns D) : mo D s ≤ 8 := by
  have := g.2.2.2 s h
  unfold mo
  split
  · omega
  · split <;> omega
theorem stp_lt {D : HD} (g : GH D) {s l : Nat} (hl : l < nl D) : stp D s l < sh D l := by
  have := g.2.2.1 l hl
  unfold stp
  split
  · exact Nat.mod_lt _ (by omega)
  · omega
theorem bit_of : ∀ w, w < 32 → ∀ l, l < 5 → ((shr32 (nI w) (nI l) &&& (1 : Int32) = 1) ↔ w.testBit l = true) := by decide +kernel
theorem X_wired {S : St} {D : HD} (h : XH S D) (g : GH D) {s l : Nat} (hs : s < ns D) (hl : l < 5) : f_X1_isWired S (nI s) (nI l) = some ((wr D s).testBit l) := by
  have h5 := g.2.1
  unfold f_X1_isWired
  rw [ck_t (okn (by omega) (by decide)), ixn (by omega), (h.2.2.2 s hs).2.2]
  by_cases hb : (wr D s).testBit l = true
  · rw [if_pos ((bit_of _ (g.2.2.2 s hs).2.2.2 l hl).mpr hb), hb]
  · rw [if_neg (fun q => hb ((bit_of _ (g.2.2.2 s hs).2.2.2 l hl).mp q))]
    simp only [Bool.not_eq_true] at hb
    rw [hb]
theorem M_isOf {w l : Nat} (hw : w < 32) (hl : l < 5) : f_X7_isOf (nI w) (nI l) = some (w.testBit l) := by
  unfold f_X7_isOf
  by_cases hb : w.testBit l = true
  · rw [if_pos ((bit_of _ hw l hl).mpr hb), hb]
  · rw [if_neg (fun q => hb ((bit_of _ hw l hl).mp q))]
    simp only [Bool.not_eq_true] at hb
    rw [hb]
theorem X_moves {S : St} {D : HD} (h : XH S D) (g : GH D) {s : Nat} (hs : s < ns D) : f_X1_moves S (nI s) = some (nI (mo D s)) := by
  have h5 := g.2.1
  have hk := (g.2.2.2 s hs).1
  unfold f_X1_moves mo
  simp only [ck_t (okn (j := s) (n := 5) (by omega) (by decide)), ixn (j := s) (by omega), (h.2.2.2 s hs).1, (h.2.2.2 s hs).2.1]
  have e1 : (nI (kd D s) = 1) = (kd D s = 1) := neq (a := kd D s) (b := 1) (by omega) (by decide)
  have e2 : (nI (kd D s) = 2) = (kd D s = 2) := neq (a := kd D s) (b := 2) (by omega) (by decide)
  simp only [e1, e2]
  split
  · rw [nadd1]
  · split
    · rw [show (2 : Int32) * nI (tn D s) = nI (2 * tn D s) from pk_mul 2 _]
    · rfl
theorem M_moves {S : St} {D : HD} (h : MH S D) (g : GH D) {s : Nat} (hs : s < ns D) : f_X7_movesOf S (nI s) = some (nI (mo D s)) := by
  have h5 := g.2.1
  have hk := (g.2.2.2 s hs).1
  unfold f_X7_movesOf mo
  simp only [ck_t (okn (j := s) (n := 5) (by omega) (by decide)), ixn (j := s) (by omega), (h.2.2.2 s hs).1, (h.2.2.2 s hs).2.1]
  have e1 : (nI (kd D s) = 1) = (kd D s = 1) := neq (a := kd D s) (b := 1) (by omega) (by decide)
  have e0 : (nI (kd D s) = 0) = (kd D s = 0) := neq (a := kd D s) (b := 0) (by omega) (by decide)
  simp only [e1, e0]
  by_cases k0 : kd D s = 0
  · rw [if_pos k0, if_neg (by omega), if_neg (by omega)]
  · rw [if_neg k0]
    by_cases k1 : kd D s = 1
    · rw [if_pos k1, if_pos k1, nadd1]
    · rw [if_neg k1, if_neg k1, if_pos (by omega), show (2 : Int32) * nI (tn D s) = nI (2 * tn D s) from pk_mul 2 _]
theorem xor_nn {a b : Nat} (ha : a < 2 ^ 30) (hb : b < 2 ^ 30) : (0 : Int32) ≤ nI a ^^^ nI b := by
  have e : nI a ^^^ nI b = nI (a ^^^ b) := by
    apply Int32.toBitVec_inj.mp
    show BitVec.ofNat 32 a ^^^ BitVec.ofNat 32 b = BitVec.ofNat 32 (a ^^^ b)
    rw [BitVec.ofNat_xor]
  rw [e]
  exact n0le (Nat.lt_of_lt_of_le (Nat.xor_lt_two_pow ha hb) (by decide))
theorem wrap_n {a b : Nat} (ha : a < 2 ^ 30) (hb : b < 2 ^ 30) (h0 : 1 ≤ b) : f_X6_wrapped (nI a) (nI b) = some (nI (a % b)) := by
  unfold f_X6_wrapped f_J9_floorMod_7cf53
  rw [if_pos (show (1 : Int32) ≤ nI b from (nI_leI (by decide) (by omega)).mpr h0), ck_t (show ¬ nI b = 0 from nI_ne0 (by omega) (by omega)), if_pos (xor_nn ha hb), bd_s]
  rw [show rem32 (nI a) (nI b) = nI (a % b) from pk_rem (by omega) (by omega) (by omega)]
theorem wrap_m : ∀ r, r < 5 → ∀ t, t < 5 → ∀ b, b < 6 → 1 ≤ b → f_X6_wrapped (nI r + (-1 : Int32) * nI t) (nI b) = some (nI ((r + 5 * b - t) % b)) := by decide +kernel
theorem wrap_s : ∀ r, r < 5 → ∀ t, t < 5 → ∀ b, b < 6 → 1 ≤ b → f_X6_wrapped (nI r - nI t) (nI b) = some (nI ((r + 5 * b - t) % b)) := by decide +kernel
theorem X_step {S : St} {D : HD} (h : XH S D) (g : GH D) {s l : Nat} (hs : s < ns D) (hl : l < nl D) : f_X1_stepOf S (nI s) (nI l) = some (nI (stp D s l)) := by
  have h5 := g.1
  have hsh := g.2.2.1 l hl
  have hm := mo_le g hs
  unfold f_X1_stepOf stp
  rw [X_wired h g hs (by omega), bd_s]
  by_cases hb : (wr D s).testBit l = true
  · rw [hb, if_neg (by decide), X_moves h g hs, bd_s, ck_t (okn (by omega) (by decide)), ixn (by omega), h.2.2.1 l hl, wrap_n (by omega) (by omega) (by omega), bd_s, if_pos rfl]
  · simp only [Bool.not_eq_true] at hb
    rw [hb, if_pos rfl, if_neg (by decide)]
    rfl
/-! lamps turned on by a switch -/
theorem X_turnOn {S : St} {D : HD} (h : XH S D) (g : GH D) {k s : Nat} (hk : arX k) (hk2 : lenX k = 5) (hkn : k ≠ 22 ∧ k ≠ 24 ∧ k ≠ 25 ∧ k ≠ 26) (hs : s < ns D) {r : Nat → Nat} (hr : ∀ l, l < nl D → S k l = nI (r l)) (times : Int32) (f : Nat → Nat)
    (hf : ∀ l, l < nl D → f_X6_wrapped (nI (r l) + times * nI (stp D s l)) (nI (sh D l)) = some (nI (f l))) : f_X1_turnOn S k (nI s) times = some (fill S k (nl D) (fun l => nI (f l))) := by
  have h5 := g.1
  unfold f_X1_turnOn
  rw [ck_t hk, iter_to (fun i => (fill S k i (fun l => nI (f l)), nI i)) (nl D) (t := (fill S k (nl D) (fun l => nI (f l)), nI (nl D))) (by rw [fill_0]; rfl), bd_s]
  · intro i hi
    have hX : XH (fill S k i (fun l => nI (f l))) D := by
      obtain ⟨h1, h2, h3, h4⟩ := h
      have hk1 : (1 : Nat) ≠ k := by omega
      refine ⟨by rw [fill_ne _ _ _ _ hk1]; exact h1, by rw [fill_ne _ _ _ _ hk1]; exact h2, ?_, ?_⟩
      · intro l hl; rw [fill_ne _ _ _ _ (Ne.symm hkn.1)]; exact h3 l hl
      · intro s hs; rw [fill_ne _ _ _ _ (Ne.symm hkn.2.1), fill_ne _ _ _ _ (Ne.symm hkn.2.2.1), fill_ne _ _ _ _ (Ne.symm hkn.2.2.2)]; exact h4 s hs
    show i_X1_turnOn_3 (fill S k i (fun l => nI (f l))) k (nI s) times (nI i) = _
    unfold i_X1_turnOn_3
    rw [hX.1, if_neg (by rw [nle (by omega) (by omega)]; omega), hk2, ck_t (okn (by omega) (by decide)), X_step hX g hs hi, bd_s, ck_t (okn (by omega) (by decide)), ixn (by omega), fill_hi (Nat.le_refl i), hr i hi, hX.2.2.1 i hi, hf i hi, bd_s, ck_t (okn (by omega) (by decide)), fill_up' rfl, nadd1]
  · show i_X1_turnOn_3 (fill S k (nl D) (fun l => nI (f l))) k (nI s) times (nI (nl D)) = _
    unfold i_X1_turnOn_3
    have hk1 : (1 : Nat) ≠ k := by omega
    rw [fill_ne _ _ _ _ hk1, h.1, if_pos (by rw [nle (by omega) (by omega)]; omega)]
  · have := bigN; omega
/-- a switch pressed n times, on a row of shades -/
def prs (D : HD) (s n : Nat) (r : Nat → Nat) : Nat → Nat := fun l => (r l + n * stp D s l) % sh D l
theorem X_press {S : St} {D : HD} (h : XH S D) (g : GH D) {k s n : Nat} (hk : arX k) (hk2 : lenX k = 5) (hkn : k ≠ 22 ∧ k ≠ 24 ∧ k ≠ 25 ∧ k ≠ 26) (hs : s < ns D) {r : Nat → Nat} (hr : ∀ l, l < nl D → S k l = nI (r l)) (hb : ∀ l, l < nl D → r l < sh D l) (hn : n ≤ 99) : f_X1_turnOn S k (nI s) (nI n) = some (fill S k (nl D) (fun l => nI (prs D s n r l))) := by
  refine X_turnOn h g hk hk2 hkn hs hr (nI n) (prs D s n r) (fun l hl => ?_)
  have h1 := g.2.2.1 l hl
  have h2 := hb l hl
  have h3 := stp_lt g (s := s) hl
  have h4 : n * stp D s l ≤ 99 * 5 := Nat.mul_le_mul hn (by omega)
  rw [pk_mul, nI_add, wrap_n (by omega) (by omega) (by omega)]
  rfl
theorem M_turns {S : St} {D : HD} (h : MH S D) (g : GH D) {s n : Nat} (hs : s < ns D) {r : Nat → Nat} (hr : ∀ l, l < nl D → S 5 l = nI (r l)) (hb : ∀ l, l < nl D → r l < sh D l) (hn : n ≤ 99) : f_X7_turnsAll S (nI s) (nI n) = some (fill S 5 (nl D) (fun l => nI (prs D s n r l))) := by
  have h5 := g.1
  have hs5 := g.2.1
  have hm := mo_le g hs
  unfold f_X7_turnsAll
  rw [iter_to (fun i => (fill S 5 i (fun l => nI (prs D s n r l)), nI i)) (nl D) (t := (fill S 5 (nl D) (fun l => nI (prs D s n r l)), nI (nl D))) (by rw [fill_0]; rfl), bd_s]
  · intro i hi
    have hsh := g.2.2.1 i hi
    have hX : MH (fill S 5 i (fun l => nI (prs D s n r l))) D := by
      obtain ⟨h1, h2, h3, h4⟩ := h
      refine ⟨by rw [fill_ne _ _ _ _ (by decide)]; exact h1, by rw [fill_ne _ _ _ _ (by decide)]; exact h2, ?_, ?_⟩
      · intro l hl; rw [fill_ne _ _ _ _ (by decide)]; exact h3 l hl
      · intro s hs; rw [fill_ne _ _ _ _ (by decide), fill_ne _ _ _ _ (by decide), fill_ne _ _ _ _ (by decide)]; exact h4 s hs
    show i_X7_turnsAll_2 (fill S 5 i (fun l => nI (prs D s n r l))) (nI s) (nI n) (nI i) = _
    unfold i_X7_turnsAll_2
    rw [hX.1, if_neg (by rw [nle (by omega) (by omega)]; omega), ck_t (okn (by omega) (by decide)), ixn (j := s) (by omega), (hX.2.2.2 s hs).2.2, M_isOf (g.2.2.2 s hs).2.2.2 (by omega), bd_s]
    have h2 := hb i hi
    by_cases hw : (wr D s).testBit i = true
    · have e : prs D s n r i = (r i + n * mo D s) % sh D i := by
        unfold prs stp
        rw [if_pos hw, Nat.add_mod, Nat.mul_mod, Nat.mod_mod, ← Nat.mul_mod, ← Nat.add_mod]
      have h4 : n * mo D s ≤ 99 * 8 := Nat.mul_le_mul hn hm
      rw [hw, if_neg (by decide), ck_t (okn (by omega) (by decide)), M_moves hX g hs, bd_s, ck_t (okn (by omega) (by decide)), ixn (j := i) (by omega), hX.2.2.1 i hi, ck_t (show ¬ nI (sh D i) = 0 from nI_ne0 (by omega) (by omega)), ck_t (okn (by omega) (by decide)), fill_hi (Nat.le_refl i), hr i hi, pk_mul, nI_add, show rem32 (nI (r i + n * mo D s)) (nI (sh D i)) = nI ((r i + n * mo D s) % sh D i) from pk_rem (by omega) (by omega) (by omega), fill_up' (by rw [e]), nadd1]
    · have e : prs D s n r i = r i := by
        unfold prs stp
        rw [if_neg hw, Nat.mul_zero, Nat.add_zero, Nat.mod_eq_of_lt h2]
      simp only [Bool.not_eq_true] at hw
      rw [hw, if_pos rfl, nadd1]
      congr 3
      rw [← fill_up]
      funext a b
      rw [up_ap]
      by_cases ha : a = 5
      · subst ha
        rw [if_pos rfl]
        by_cases hbi : b = i
        · subst hbi
          rw [if_pos rfl, fill_hi (Nat.le_refl _), hr _ hi, e]
        · rw [if_neg hbi]
      · rw [if_neg ha]
  · show i_X7_turnsAll_2 (fill S 5 (nl D) (fun l => nI (prs D s n r l))) (nI s) (nI n) (nI (nl D)) = _
    unfold i_X7_turnsAll_2
    rw [fill_ne _ _ _ _ (by decide), h.1, if_pos (by rw [nle (by omega) (by omega)]; omega)]
  · have := bigN; omega
theorem prs_lt {D : HD} (g : GH D) {s n : Nat} {r : Nat → Nat} {l : Nat} (hl : l < nl D) : prs D s n r l < sh D l := by
  have := g.2.2.1 l hl
  exact Nat.mod_lt _ (by omega)
/-! how many are dark -/
def dk (D : HD) (r : Nat → Nat) : Nat := cnt (fun l => r l == 0) (nl D)
theorem dk_le {D : HD} (r : Nat → Nat) : dk D r ≤ nl D := cnt_le _ _
theorem X_dark {S : St} {D : HD} (h : XH S D) (g : GH D) {k : Nat} (hk : arX k) (hk2 : lenX k = 5) {r : Nat → Nat} (hr : ∀ l, l < nl D → S k l = nI (r l)) (hb : ∀ l, l < nl D → r l < sh D l) : f_X1_darkIn S k = some (nI (dk D r)) := by
  have h5 := g.1
  unfold f_X1_darkIn
  rw [ck_t hk, iter_to (fun i => (nI (cnt (fun l => r l == 0) i), nI i)) (nl D) (t := (nI (dk D r), nI (nl D))) (by rfl), bd_s]
  · intro i hi
    have := g.2.2.1 i hi
    have := hb i hi
    show i_X1_darkIn_4 S k (nI (cnt (fun l => r l == 0) i)) (nI i) = _
    unfold i_X1_darkIn_4
    rw [h.1, if_neg (by rw [nle (by omega) (by omega)]; omega), hk2, ck_t (okn (by omega) (by decide)), ixn (by omega), hr i hi, cnt]
    by_cases hz : r i = 0
    · rw [if_pos (show nI (r i) = 0 by rw [hz]; rfl), nadd1, nadd1, if_pos (by simp [hz])]
    · rw [if_neg (show ¬ nI (r i) = 0 from nI_ne0 (by omega) (by omega)), nadd1, if_neg (by simp [hz])]
      rfl
  · show i_X1_darkIn_4 S k (nI (cnt (fun l => r l == 0) (nl D))) (nI (nl D)) = _
    unfold i_X1_darkIn_4
    rw [h.1, if_pos (by rw [nle (by omega) (by omega)]; omega)]
    rfl
  · have := bigN; omega
theorem M_dark {S : St} {D : HD} (h : MH S D) (g : GH D) {r : Nat → Nat} (hr : ∀ l, l < nl D → S 5 l = nI (r l)) (hb : ∀ l, l < nl D → r l < sh D l) : f_X7_darkNow S = some (nI (dk D r)) := by
  have h5 := g.1
  unfold f_X7_darkNow
  rw [iter_to (fun i => (nI (cnt (fun l => r l == 0) i), nI i)) (nl D) (t := (nI (dk D r), nI (nl D))) (by rfl), bd_s]
  · intro i hi
    have := g.2.2.1 i hi
    have := hb i hi
    show i_X7_darkNow_4 S (nI (cnt (fun l => r l == 0) i)) (nI i) = _
    unfold i_X7_darkNow_4
    rw [h.1, if_neg (by rw [nle (by omega) (by omega)]; omega), ck_t (okn (by omega) (by decide)), ixn (by omega), hr i hi, cnt]
    by_cases hz : r i = 0
    · rw [if_pos (show nI (r i) = 0 by rw [hz]; rfl), nadd1, nadd1, if_pos (by simp [hz])]
    · rw [if_neg (show ¬ nI (r i) = 0 from nI_ne0 (by omega) (by omega)), nadd1, if_neg (by simp [hz]), show nI (cnt (fun l => r l == 0) i) + (0 : Int32) = nI (cnt (fun l => r l == 0) i + 0) from nI_add _ 0]
  · show i_X7_darkNow_4 S (nI (cnt (fun l => r l == 0) (nl D))) (nI (nl D)) = _
    unfold i_X7_darkNow_4
    rw [h.1, if_pos (by rw [nle (by omega) (by omega)]; omega)]
    rfl
  · have := bigN; omega
