/-! days -/
theorem iter_rel {σ τ : Type} {it : σ → Option (σ ⊕ τ)} (P : Nat → σ → Prop) (T : τ → Prop) (N : Nat) (h : ∀ i s, i < N → P i s → ∃ s', it s = some (.inl s') ∧ P (i + 1) s') (he : ∀ s, P N s → ∃ t, it s = some (.inr t) ∧ T t) (s0 : σ) (h0 : P 0 s0) (hN : N < BIG) : ∃ t, iter it BIG s0 = some t ∧ T t := by
  have key : ∀ (m j n : Nat) (s : σ), j + m = N → m < n → P j s → ∃ t, iter it n s = some t ∧ T t := by
    intro m
    induction m with
    | zero =>
      intro j n s hj hn hp
      obtain ⟨q, rfl⟩ : ∃ q, n = q + 1 := ⟨n - 1, by omega⟩
      have : j = N := by omega
      subst this
      obtain ⟨t, ht, hT⟩ := he s hp
      exact ⟨t, by simp [iter, ht], hT⟩
    | succ m ih =>
      intro j n s hj hn hp
      obtain ⟨q, rfl⟩ : ∃ q, n = q + 1 := ⟨n - 1, by omega⟩
      obtain ⟨s', hs, hp'⟩ := h j s (by omega) hp
      obtain ⟨t, ht, hT⟩ := ih (j + 1) q s' (by omega) (by omega) hp'
      exact ⟨t, by simp only [iter, hs]; exact ht, hT⟩
  exact key N 0 BIG s0 (by omega) hN h0
theorem M_against0 {S : St} {k : Nat} (hk : k < 4) (h : S 1 k = -9) (a i n : Int32) : f_X7_against S (nI k) a i n = some 1 := by
  unfold f_X7_against j_X7_against_23
  rw [ck_t (okn hk (by decide)), ixn (by omega), if_pos h, ck_t (okn hk (by decide)), if_pos h]
theorem M_against1 {S : St} {k z la : Nat} (hk : k < 4) (hz : z ≤ 60) (hla : la ≤ 2) (h1 : S 1 k = nI la) (h2 : S 2 k = nI z) (a i n : Int32) : f_X7_against S (nI k) a i n = some (if nI la = a then (if n < 0 then 4 else if hcB z i n = true then 0 else 3) else 2) := by
  unfold f_X7_against j_X7_against_23
  simp only [ck_t (okn hk (by decide)), ixn (j := k) (by omega), h1, h2, if_neg (nneg_ne (a := la) (by omega) (show (-9 : Int32).toInt < 0 by decide))]
  by_cases e : nI la = a
  · simp only [if_pos e]
    by_cases hn : n < 0
    · have : ¬ 0 ≤ n := by rw [Int32.le_iff_toInt_le]; rw [Int32.lt_iff_toInt_lt] at hn; omega
      simp only [if_pos hn, if_neg this]
    · have : 0 ≤ n := by rw [Int32.le_iff_toInt_le]; rw [Int32.lt_iff_toInt_lt] at hn; omega
      simp only [if_neg hn, if_pos this]
      unfold hcB
      by_cases q1 : i < 0
      · simp only [if_pos q1]
        rfl
      simp only [if_neg q1]
      by_cases q2 : nI z < i
      · simp only [if_pos q2]
        rfl
      simp only [if_neg q2, if_neg hn]
      by_cases q3 : nI z - i < n
      · have : ¬ n ≤ nI z - i := by rw [Int32.le_iff_toInt_le]; rw [Int32.lt_iff_toInt_lt] at q3; omega
        simp only [if_pos q3, if_neg this]
        rfl
      · have : n ≤ nI z - i := by rw [Int32.le_iff_toInt_le]; rw [Int32.lt_iff_toInt_lt] at q3; omega
        simp only [if_neg q3, if_pos this]
        rfl
  · simp only [if_neg e]
/-! a pair refused -/
def hsB (D : HD) (a : Int32) : Bool := if a < 0 then false else if nI (ns D) ≤ a then false else true
theorem X_hs {S : St} {D : HD} (h : XH S D) (a : Int32) : f_X1_hasSwitch S a = some (hsB D a) := by
  unfold f_X1_hasSwitch hsB
  rw [h.2.1]
  split
  · rfl
  · split <;> rfl
theorem M_hs {S : St} {D : HD} (h : MH S D) (a : Int32) : f_X7_isSwitch S a = some (hsB D a) := by
  unfold f_X7_isSwitch hsB
  rw [h.2.1]
  split
  · rfl
  · split <;> rfl
theorem hsB_t {D : HD} (g : GH D) {a : Int32} (h : hsB D a = true) : ∃ s, s < ns D ∧ a = nI s := by
  have := g.2.1
  rcases nix2 a (n := ns D) (by omega) with ha | ha
  · unfold hsB at h
    rcases ha with ha | ⟨ha, hb⟩
    · rw [if_pos ha] at h; cases h
    · rw [if_neg ha, if_pos hb] at h; cases h
  · exact ha
def rfv (D : HD) (a b : Int32) : Int32 := if inB b 0 14 = true then (if b < 10 then (if hsB D a = true then 0 else -1) else (if inB a 0 4 = true then 0 else -2)) else -2
theorem bf {b : Bool} (h : ¬ b = true) : b = false := by cases b with | true => exact absurd rfl h | false => rfl
theorem X_rp {S : St} {D : HD} (h : XH S D) (a b : Int32) : f_X6_refusalOfPair S a b = some (rfv D a b) := by
  unfold f_X6_refusalOfPair rfv
  rw [X_in, bd_s]
  by_cases h1 : inB b 0 14 = true
  · rw [if_pos h1, if_pos h1]
    by_cases h2 : b < 10
    · rw [if_pos h2, if_pos h2, X_hs h, bd_s]
      by_cases h3 : hsB D a = true
      · rw [if_neg (by rw [h3]; decide), if_pos h3]
      · rw [if_pos (bf h3), if_neg h3]
    · rw [if_neg h2, if_neg h2, X_in, bd_s]
      by_cases h3 : inB a 0 4 = true
      · rw [if_neg (by rw [h3]; decide), if_pos h3]
      · rw [if_pos (bf h3), if_neg h3]
  · rw [if_neg h1, if_neg h1]
theorem M_rp {S : St} {D : HD} (h : MH S D) (a b : Int32) : f_X7_refusesPair S a b = some (rfv D a b) := by
  unfold f_X7_refusesPair rfv
  simp only [j_X7_refusesPair_11, j_X7_refusesPair_38, M_in, bd_s, M_hs h, if_pos (show (0 : Int32) = 0 from rfl), if_neg (show ¬ (1 : Int32) = 0 by decide)]
  by_cases h1 : inB b 0 14 = true
  · have h1' : ¬ inB b 0 14 = false := by rw [h1]; decide
    simp only [if_pos h1, if_neg h1', if_pos]
    by_cases h2 : b < 10
    · simp only [if_pos h2]
      by_cases h3 : hsB D a = true
      · simp only [if_pos h3]
      · simp only [if_neg h3]
    · simp only [if_neg h2]
      by_cases h3 : inB a 0 4 = true
      · simp only [if_pos h3]
      · simp only [if_neg h3]
  · simp only [if_neg h1, if_pos (bf h1)]
    split <;> rfl
/-! acts, one behind another -/
abbrev Rw : Type := (Nat → Nat) × Int32 × Int32
def dv (D : HD) (r : Nat → Nat) : Int32 := if dk D r = nl D then 1 else 0
def dst (D : HD) (a b : Nat) (A : Rw) : Option Rw :=
  if b < 10 then some (prs D a b A.1, A.2.1 + nI b, A.2.2 + dv D (prs D a b A.1))
  else if b - 10 < nl D ∧ a < sh D (b - 10) then some (fun l => if l = b - 10 then a else A.1 l, A.2.1, A.2.2 + dv D (fun l => if l = b - 10 then a else A.1 l)) else none
def dsq (D : HD) (nw : Nat → Nat) (pa pb : Nat → Nat) : Nat → Option Rw
  | 0 => some (nw, 0, 0)
  | c + 1 => match dsq D nw pa pb c with
    | none => none
    | some A => dst D (pa c) (pb c) A
def rok (D : HD) (r : Nat → Nat) : Prop := ∀ l, l < nl D → r l < sh D l
theorem dst_ok {D : HD} (g : GH D) {a b : Nat} {A A' : Rw} (h : dst D a b A = some A') (hr : rok D A.1) : rok D A'.1 := by
  unfold dst at h
  by_cases h1 : b < 10
  · rw [if_pos h1] at h
    cases h
    exact fun l hl => prs_lt g hl
  · rw [if_neg h1] at h
    by_cases h2 : b - 10 < nl D ∧ a < sh D (b - 10)
    · rw [if_pos h2] at h
      cases h
      intro l hl
      show (if l = b - 10 then a else A.1 l) < _
      by_cases e : l = b - 10
      · rw [if_pos e, e]; exact h2.2
      · rw [if_neg e]; exact hr l hl
    · rw [if_neg h2] at h
      cases h
/-- the class's state within a day -/
def PX (D : HD) (S0 : St) (A : Rw) (S : St) : Prop := (∀ a, a ≠ 5 → a ≠ 36 → S a = S0 a) ∧ (∀ l, l < nl D → S 36 l = nI (A.1 l)) ∧ S 5 1 = -9 ∧ S 5 2 = A.2.1 ∧ S 5 3 = A.2.2
def PM (D : HD) (S0 : St) (A : Rw) (S : St) : Prop := (∀ a, a ≠ 0 → a ≠ 5 → S a = S0 a) ∧ (∀ b, b ≠ 20 → b ≠ 21 → S 0 b = S0 0 b) ∧ (∀ l, l < nl D → S 5 l = nI (A.1 l)) ∧ S 0 20 = A.2.1 ∧ S 0 21 = A.2.2
theorem add0 (x : Int32) : x + (0 : Int32) = x := by
  apply Int32.toBitVec_inj.mp
  show x.toBitVec + 0#32 = x.toBitVec
  simp
theorem X_happens {S0 S : St} {D : HD} {A : Rw} (hx0 : XH S0 D) (g : GH D) (hr : rok D A.1) (h : PX D S0 A S) {a b : Nat} (hb : b ≤ 14) (hab : b < 10 → a < ns D) (ha4 : 10 ≤ b → a ≤ 4) :
    (∀ A', dst D a b A = some A' → ∃ S', f_X0_happens S (nI a) (nI b) = some (true, S') ∧ PX D S0 (A'.1, A'.2.1, A.2.2) S') ∧ (dst D a b A = none → f_X0_happens S (nI a) (nI b) = some (false, S)) := by
  obtain ⟨h1, h2, h3, h4, h5⟩ := h
  have hx : XH S D := hx0.fr (fun q hq => h1 q (by omega) (by omega))
  have hn5 := g.1
  unfold f_X0_happens
  by_cases h10 : b < 10
  · rw [if_pos (show nI b < (10 : Int32) by rw [n10, nlt (by omega) (by decide)]; exact h10), X_sw1 hx g (hab h10), bd_s, if_pos rfl, X_press hx g (k := 36) ⟨by decide, by decide⟩ (by decide) (by decide) (hab h10) h2 hr (by omega), bd_s]
    unfold dst
    rw [if_pos h10]
    refine ⟨fun A' e => ?_, fun e => by cases e⟩
    cases e
    refine ⟨_, rfl, fun q q1 q2 => ?_, fun l hl => ?_, ?_, ?_, ?_⟩
    · rw [up_ne _ _ _ _ q1, fill_ne _ _ _ _ q2]; exact h1 q q1 q2
    · rw [up_ne _ _ _ _ (by decide), fill_lo hl]
    · rw [up_ap, if_pos rfl, if_neg (by decide), fill_ne _ _ _ _ (by decide)]; exact h3
    · rw [up_ap, if_pos rfl, if_pos rfl, fill_ne _ _ _ _ (by decide), h4]
    · rw [up_ap, if_pos rfl, if_neg (by decide), fill_ne _ _ _ _ (by decide)]; exact h5
  · rw [if_neg (show ¬ nI b < (10 : Int32) by rw [n10, nlt (by omega) (by decide)]; exact h10), show nI b - (10 : Int32) = nI (b - 10) from pk_sub (b := 10) (by omega)]
    have ha := ha4 (by omega)
    unfold dst
    rw [if_neg h10]
    by_cases hl : b - 10 < nl D
    · have hsh := g.2.2.1 _ hl
      rw [X_hasShade hx g hl, bd_s]
      by_cases hs : a < sh D (b - 10)
      · have e1 : nI (sh D (b - 10)) - 1 = nI (sh D (b - 10) - 1) := pk_sub (b := 1) (by omega)
        rw [show inB (nI a) 0 (nI (sh D (b - 10)) - 1) = true from inB_of (nnot0 (by omega)) (by rw [e1, nlt (by omega) (by omega)]; omega), if_pos rfl, ck_t (okn (by omega) (by decide)), ixn (by omega), if_pos ⟨hl, hs⟩]
        refine ⟨fun A' e => ?_, fun e => by cases e⟩
        cases e
        refine ⟨_, rfl, fun q q1 q2 => ?_, fun l hl => ?_, ?_, ?_, ?_⟩
        · rw [up_ne _ _ _ _ q2]; exact h1 q q1 q2
        · show _ = nI (if l = b - 10 then a else A.1 l)
          rw [up_ap, if_pos rfl]
          by_cases e : l = b - 10
          · rw [if_pos e, if_pos e]
          · rw [if_neg e, if_neg e]; exact h2 l hl
        · rw [up_ne _ _ _ _ (by decide)]; exact h3
        · rw [up_ne _ _ _ _ (by decide)]; exact h4
        · rw [up_ne _ _ _ _ (by decide)]; exact h5
      · have e1 : nI (sh D (b - 10)) - 1 = nI (sh D (b - 10) - 1) := pk_sub (b := 1) (by omega)
        have e2 : inB (nI a) 0 (nI (sh D (b - 10)) - 1) = false := by
          unfold inB
          rw [if_neg (nnot0 (by omega)), if_pos (by rw [e1, nlt (by omega) (by omega)]; omega)]
        rw [e2, if_neg (show ¬ false = true by decide), if_neg (show ¬ (b - 10 < nl D ∧ a < sh D (b - 10)) by omega)]
        exact ⟨fun A' e => (by cases e), fun _ => rfl⟩
    · have e3 : f_X1_hasShade S (nI (b - 10)) (nI a) = some false := by
        unfold f_X1_hasShade
        rw [X_lamp0 hx (Or.inr ⟨nnot0 (by omega), by rw [nle (by omega) (by omega)]; omega⟩), bd_s, if_pos rfl]
      rw [e3, bd_s, if_neg (show ¬ false = true by decide), if_neg (show ¬ (b - 10 < nl D ∧ a < sh D (b - 10)) by omega)]
      exact ⟨fun A' e => (by cases e), fun _ => rfl⟩
theorem M_does {S0 S : St} {D : HD} {A : Rw} (hm0 : MH S0 D) (g : GH D) (hr : rok D A.1) (h : PM D S0 A S) {a b : Nat} (hb : b ≤ 14) (hab : b < 10 → a < ns D) (ha4 : 10 ≤ b → a ≤ 4) :
    (∀ A', dst D a b A = some A' → ∃ S', f_X7_does S (nI a) (nI b) = some (true, S') ∧ PM D S0 A' S') ∧ (dst D a b A = none → f_X7_does S (nI a) (nI b) = some (false, S)) := by
  obtain ⟨h1, h2, h3, h4, h5⟩ := h
  have hm : MH S D := hm0.fr (h2 5 (by decide) (by decide)) (h2 6 (by decide) (by decide)) (fun q hq => h1 q (by omega) (by omega))
  have hn5 := g.1
  have tail : ∀ (S1 : St) (r : Nat → Nat) (p : Int32), rok D r → PM D S0 (r, p, A.2.2) S1 → ∃ S', j_X7_does_57 S1 = some (true, S') ∧ PM D S0 (r, p, A.2.2 + dv D r) S' := by
    intro S1 r p hr1 ⟨k1, k2, k3, k4, k5⟩
    have hm1 : MH S1 D := hm0.fr (k2 5 (by decide) (by decide)) (k2 6 (by decide) (by decide)) (fun q hq => k1 q (by omega) (by omega))
    have hdk := dk_le (D := D) r
    have pm : ∀ v : Int32, v = A.2.2 + dv D r → PM D S0 (r, p, A.2.2 + dv D r) (up S1 0 21 v) := fun v hv => by
      refine ⟨fun q q1 q2 => by rw [up_ne _ _ _ _ q1]; exact k1 q q1 q2, fun q q1 q2 => by rw [up_ap, if_pos rfl, if_neg q2]; exact k2 q q1 q2, fun l hl => by rw [up_ne _ _ _ _ (by decide)]; exact k3 l hl, by rw [up_ap, if_pos rfl, if_neg (by decide)]; exact k4, by rw [up_ap, if_pos rfl, if_pos rfl, hv]⟩
    unfold j_X7_does_57
    rw [M_dark hm1 g k3 hr1, bd_s, hm1.1, k5]
    by_cases e : dk D r = nl D
    · rw [if_pos (by rw [e])]
      exact ⟨_, rfl, pm _ (by unfold dv; rw [if_pos e])⟩
    · rw [if_neg (show ¬ nI (dk D r) = nI (nl D) by rw [neq (by omega) (by omega)]; exact e)]
      exact ⟨_, rfl, pm _ (by unfold dv; rw [if_neg e])⟩
  unfold f_X7_does
  by_cases h10 : b < 10
  · rw [if_neg (show ¬ (10 : Int32) ≤ nI b by rw [n10, nle (by decide) (by omega)]; omega), M_turns hm g (hab h10) h3 hr (by omega), bd_s]
    unfold dst
    rw [if_pos h10]
    refine ⟨fun A' e => ?_, fun e => by cases e⟩
    cases e
    refine tail _ (prs D a b A.1) (A.2.1 + nI b) (fun l hl => prs_lt g hl) ⟨fun q q1 q2 => ?_, fun q q1 q2 => ?_, fun l hl => ?_, ?_, ?_⟩
    · rw [up_ne _ _ _ _ q1, fill_ne _ _ _ _ q2]; exact h1 q q1 q2
    · rw [up_ap, if_pos rfl, if_neg q1, fill_ne _ _ _ _ (by decide)]; exact h2 q q1 q2
    · rw [up_ne _ _ _ _ (by decide), fill_lo hl]
    · rw [up_ap, if_pos rfl, if_pos rfl, fill_ne _ _ _ _ (by decide), h4]
    · rw [up_ap, if_pos rfl, if_neg (by decide), fill_ne _ _ _ _ (by decide)]; exact h5
  · rw [if_pos (show (10 : Int32) ≤ nI b by rw [n10, nle (by decide) (by omega)]; omega), show nI b - (10 : Int32) = nI (b - 10) from pk_sub (b := 10) (by omega)]
    have ha := ha4 (by omega)
    unfold dst
    rw [if_neg h10]
    by_cases hl : b - 10 < nl D
    · have hsh := g.2.2.1 _ hl
      rw [M_lamp1 hm g hl, bd_s, if_neg (show ¬ true = false by decide), ck_t (okn (by omega) (by decide)), ixn (by omega), hm.2.2.1 _ hl]
      by_cases hs : a < sh D (b - 10)
      · rw [if_pos (show nI a < nI (sh D (b - 10)) by rw [nlt (by omega) (by omega)]; exact hs), ck_t (okn (by omega) (by decide)), if_pos (show b - 10 < nl D ∧ a < sh D (b - 10) from ⟨hl, hs⟩)]
        refine ⟨fun A' e => ?_, fun e => by cases e⟩
        cases e
        refine tail _ (fun l => if l = b - 10 then a else A.1 l) A.2.1 (fun l hl => ?_) ⟨fun q q1 q2 => ?_, fun q q1 q2 => ?_, fun l hl => ?_, ?_, ?_⟩
        · show (if l = b - 10 then a else A.1 l) < _
          by_cases e : l = b - 10
          · rw [if_pos e, e]; exact hs
          · rw [if_neg e]; exact hr l hl
        · rw [up_ne _ _ _ _ q2]; exact h1 q q1 q2
        · rw [up_ne _ _ _ _ (by decide)]; exact h2 q q1 q2
        · show _ = nI (if l = b - 10 then a else A.1 l)
          rw [up_ap, if_pos rfl]
          by_cases e : l = b - 10
          · rw [if_pos e, if_pos e]
          · rw [if_neg e, if_neg e]; exact h3 l hl
        · rw [up_ne _ _ _ _ (by decide)]; exact h4
        · rw [up_ne _ _ _ _ (by decide)]; exact h5
      · rw [if_neg (show ¬ nI a < nI (sh D (b - 10)) by rw [nlt (by omega) (by omega)]; exact hs), if_neg (show ¬ (b - 10 < nl D ∧ a < sh D (b - 10)) by omega)]
        exact ⟨fun A' e => (by cases e), fun _ => rfl⟩
    · rw [M_lamp0 hm (Or.inr ⟨nnot0 (by omega), by rw [nle (by omega) (by omega)]; omega⟩), bd_s, if_pos rfl, if_neg (show ¬ (b - 10 < nl D ∧ a < sh D (b - 10)) by omega)]
      exact ⟨fun A' e => (by cases e), fun _ => rfl⟩
