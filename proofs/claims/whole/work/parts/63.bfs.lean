/-! drawers; loops by a measure; what is come to, in the order of a queue -/
theorem fb_holes : ∀ (m n : Nat) (f : Nat → Nat), (∀ i, i < n → f i < m) → (∀ i j, i < j → j < n → f i ≠ f j) → n ≤ m := by
  intro m
  induction m with
  | zero =>
    intro n f h1 _
    rcases Nat.eq_zero_or_pos n with h | h
    · omega
    · exact absurd (h1 0 h) (Nat.not_lt_zero _)
  | succ m ih =>
    intro n f h1 h2
    by_cases hx : ∃ i, i < n ∧ f i = m
    · obtain ⟨a, ha, hfa⟩ := hx
      have hg := ih (n - 1) (fun i => if i < a then f i else f (i + 1)) (by
        intro i hi
        by_cases q : i < a
        · simp only [if_pos q]
          have b1 := h1 i (by omega)
          have b2 := h2 i a q ha
          omega
        · simp only [if_neg q]
          have b1 := h1 (i + 1) (by omega)
          have b2 := h2 a (i + 1) (by omega) (by omega)
          omega) (by
        intro i j hij hj
        by_cases q : i < a
        · by_cases r : j < a
          · simp only [if_pos q, if_pos r]
            exact h2 i j hij (by omega)
          · simp only [if_pos q, if_neg r]
            exact h2 i (j + 1) (by omega) (by omega)
        · have r : ¬ j < a := by omega
          simp only [if_neg q, if_neg r]
          exact h2 (i + 1) (j + 1) (by omega) (by omega))
      omega
    · have hg := ih n f (fun i hi => by
        have b1 := h1 i hi
        have b2 : f i ≠ m := fun e => hx ⟨i, hi, e⟩
        omega) h2
      omega
/-- two of them in one place -/
theorem iter_wh {σ τ : Type} {it : σ → Option (σ ⊕ τ)} (P : σ → Prop) (T : τ → Prop) (μ : σ → Nat) (h : ∀ s, P s → (∃ s', it s = some (.inl s') ∧ P s' ∧ μ s' < μ s) ∨ ∃ t, it s = some (.inr t) ∧ T t) (s0 : σ) (h0 : P s0) (hN : μ s0 < BIG) : ∃ t, iter it BIG s0 = some t ∧ T t := by
  have key : ∀ (n : Nat) (s : σ), μ s < n → P s → ∃ t, iter it n s = some t ∧ T t := by
    intro n
    induction n with
    | zero => intro s hs _; exact absurd hs (Nat.not_lt_zero _)
    | succ n ih =>
      intro s hs hp
      rcases h s hp with ⟨s', e, hp', hm⟩ | ⟨t, e, hT⟩
      · obtain ⟨t, ht, hT⟩ := ih s' (by omega) hp'
        exact ⟨t, by simp only [iter, e]; exact ht, hT⟩
      · exact ⟨t, by simp only [iter, e], hT⟩
  exact key BIG s0 hN h0
/-- what is come to, rightly told -/
def BI (D : HD) (set : Nat) (b : BS) : Prop := 1 ≤ b.2.2 ∧ (∀ j, j < b.2.2 → b.2.1 j < tot D ∧ b.1 (b.2.1 j) ≠ -9) ∧ (∀ i j, i < j → j < b.2.2 → b.2.1 i ≠ b.2.1 j) ∧ (∀ x, b.1 x ≠ -9 → ∃ j, j < b.2.2 ∧ b.2.1 j = x) ∧ b.1 0 = 0 ∧ (∀ x, b.1 x ≠ -9 → x = 0 ∨ ∃ s p d, s < ns D ∧ set.testBit s = true ∧ p < tot D ∧ x = mvn D s p ∧ b.1 p = nI d ∧ d + 1 < b.2.2 ∧ b.1 x = nI (d + 1)) ∧ ∀ x, b.1 x ≠ -9 → ∃ d, d < b.2.2 ∧ b.1 x = nI d
theorem BI.le {D : HD} {set : Nat} {b : BS} (h : BI D set b) : b.2.2 ≤ tot D := fb_holes (tot D) b.2.2 b.2.1 (fun i hi => (h.2.1 i hi).1) h.2.2.1
theorem BI.lt {D : HD} {set : Nat} {b : BS} (h : BI D set b) {x : Nat} (hx : x < tot D) (hn : b.1 x = -9) : b.2.2 < tot D := by
  have := fb_holes (tot D) (b.2.2 + 1) (fun j => if j = b.2.2 then x else b.2.1 j) (by
    intro i hi
    show (if i = b.2.2 then x else b.2.1 i) < tot D
    by_cases e : i = b.2.2
    · rw [if_pos e]; exact hx
    · rw [if_neg e]; exact (h.2.1 i (by omega)).1) (by
    intro i j hij hj
    show (if i = b.2.2 then x else b.2.1 i) ≠ (if j = b.2.2 then x else b.2.1 j)
    rw [if_neg (by omega)]
    by_cases e : j = b.2.2
    · rw [if_pos e]
      intro q
      have := (h.2.1 i (by omega)).2
      rw [q] at this
      exact this hn
    · rw [if_neg e]; exact h.2.2.1 i j hij (by omega))
  omega
theorem m9 {d : Nat} (h : d < 2 ^ 31) : nI d ≠ (-9 : Int32) := nneg_ne h (by decide)
/-- one more visited: what was told stays -/
def ext (b b' : BS) : Prop := b.2.2 ≤ b'.2.2 ∧ (∀ x, b.1 x ≠ -9 → b'.1 x = b.1 x) ∧ ∀ j, j < b.2.2 → b'.2.1 j = b.2.1 j
theorem ext.rfl (b : BS) : ext b b := ⟨Nat.le_refl _, fun _ _ => Eq.refl _, fun _ _ => Eq.refl _⟩
theorem ext.tr {a b c : BS} (h : ext a b) (k : ext b c) : ext a c := ⟨Nat.le_trans h.1 k.1, fun x hx => by rw [k.2.1 x (by rw [h.2.1 x hx]; exact hx), h.2.1 x hx], fun j hj => by rw [k.2.2 j (Nat.lt_of_lt_of_le hj h.1), h.2.2 j hj]⟩
theorem vis_ext (b : BS) (x : Nat) (d : Int32) : ext b (vis b x d) := by
  unfold vis
  by_cases e : b.1 x = -9
  · rw [if_pos e]
    refine ⟨Nat.le_succ _, fun y hy => ?_, fun j hj => ?_⟩
    · show (if y = x then d else b.1 y) = b.1 y
      rw [if_neg (fun q => hy (by rw [q]; exact e))]
    · show (if j = b.2.2 then x else b.2.1 j) = b.2.1 j
      rw [if_neg (by omega)]
  · rw [if_neg e]; exact ext.rfl b
theorem vis_BI {D : HD} (g : GH D) {set : Nat} {b : BS} (h : BI D set b) {s p : Nat} (hs : s < ns D) (hb : set.testBit s = true) (hp : p < tot D) (hv : b.1 p ≠ -9) : BI D set (vis b (mvn D s p) (b.1 p + 1)) ∧ (vis b (mvn D s p) (b.1 p + 1)).1 (mvn D s p) ≠ -9 := by
  by_cases e : b.1 (mvn D s p) = -9
  · have hE := vis_ext b (mvn D s p) (b.1 p + 1)
    have hlt := h.lt (mvn_lt g s p) e
    have ht := tot_le g
    obtain ⟨d, hd, hpd⟩ := h.2.2.2.2.2.2 p hv
    obtain ⟨h1, h2, h3, h4, h5, h6, h7⟩ := h
    have ev : vis b (mvn D s p) (b.1 p + 1) = (fun y => if y = mvn D s p then nI (d + 1) else b.1 y, fun j => if j = b.2.2 then mvn D s p else b.2.1 j, b.2.2 + 1) := by
      unfold vis
      rw [if_pos e, hpd, nadd1]
    rw [ev] at hE ⊢
    have hne : mvn D s p ≠ 0 := fun q => by
      rw [q, h5] at e
      exact absurd e (by decide)
    refine ⟨⟨?_, ?_, ?_, ?_, ?_, ?_, ?_⟩, ?_⟩
    · show 1 ≤ b.2.2 + 1
      omega
    · intro j hj
      have hj' : j < b.2.2 + 1 := hj
      show (if j = b.2.2 then mvn D s p else b.2.1 j) < tot D ∧ (if (if j = b.2.2 then mvn D s p else b.2.1 j) = mvn D s p then nI (d + 1) else b.1 (if j = b.2.2 then mvn D s p else b.2.1 j)) ≠ -9
      by_cases q : j = b.2.2
      · rw [if_pos q, if_pos (Eq.refl _)]
        exact ⟨mvn_lt g s p, m9 (by omega)⟩
      · rw [if_neg q]
        have hj2 := h2 j (by omega)
        refine ⟨hj2.1, ?_⟩
        rw [if_neg (fun r => hj2.2 (by rw [r]; exact e))]
        exact hj2.2
    · intro i j hij hj
      have hj' : j < b.2.2 + 1 := hj
      show (if i = b.2.2 then mvn D s p else b.2.1 i) ≠ (if j = b.2.2 then mvn D s p else b.2.1 j)
      rw [if_neg (by omega)]
      by_cases q : j = b.2.2
      · rw [if_pos q]
        intro r
        exact (h2 i (by omega)).2 (by rw [r]; exact e)
      · rw [if_neg q]
        exact h3 i j hij (by omega)
    · intro x hx
      have hx' : (if x = mvn D s p then nI (d + 1) else b.1 x) ≠ -9 := hx
      show ∃ j, j < b.2.2 + 1 ∧ (if j = b.2.2 then mvn D s p else b.2.1 j) = x
      by_cases q : x = mvn D s p
      · exact ⟨b.2.2, by omega, by rw [if_pos (Eq.refl _), q]⟩
      · rw [if_neg q] at hx'
        obtain ⟨j, hj, hjx⟩ := h4 x hx'
        exact ⟨j, by omega, by rw [if_neg (by omega)]; exact hjx⟩
    · show (if 0 = mvn D s p then nI (d + 1) else b.1 0) = 0
      rw [if_neg (fun q => hne q.symm), h5]
    · intro x hx
      have hx' : (if x = mvn D s p then nI (d + 1) else b.1 x) ≠ -9 := hx
      show x = 0 ∨ ∃ s' p' d', s' < ns D ∧ set.testBit s' = true ∧ p' < tot D ∧ x = mvn D s' p' ∧ (if p' = mvn D s p then nI (d + 1) else b.1 p') = nI d' ∧ d' + 1 < b.2.2 + 1 ∧ (if x = mvn D s p then nI (d + 1) else b.1 x) = nI (d' + 1)
      by_cases q : x = mvn D s p
      · refine Or.inr ⟨s, p, d, hs, hb, hp, q, ?_, by omega, by rw [if_pos q]⟩
        rw [if_neg (fun r => hv (by rw [r]; exact e)), hpd]
      · rw [if_neg q] at hx' ⊢
        rcases h6 x hx' with h0 | ⟨s', p', d', a1, a2, a3, a4, a5, a6, a7⟩
        · exact Or.inl h0
        · refine Or.inr ⟨s', p', d', a1, a2, a3, a4, ?_, by omega, a7⟩
          rw [if_neg (fun r => by rw [r, e] at a5; exact m9 (by omega) a5.symm)]
          exact a5
    · intro x hx
      have hx' : (if x = mvn D s p then nI (d + 1) else b.1 x) ≠ -9 := hx
      show ∃ d', d' < b.2.2 + 1 ∧ (if x = mvn D s p then nI (d + 1) else b.1 x) = nI d'
      by_cases q : x = mvn D s p
      · exact ⟨d + 1, by omega, by rw [if_pos q]⟩
      · rw [if_neg q] at hx' ⊢
        obtain ⟨d', a, a'⟩ := h7 x hx'
        exact ⟨d', by omega, a'⟩
    · show (if mvn D s p = mvn D s p then nI (d + 1) else b.1 (mvn D s p)) ≠ -9
      rw [if_pos (Eq.refl _)]
      exact m9 (by omega)
  · have ev : vis b (mvn D s p) (b.1 p + 1) = b := by unfold vis; rw [if_neg e]
    rw [ev]
    exact ⟨h, e⟩
theorem bs0_BI {D : HD} (g : GH D) (set : Nat) : BI D set bs0 := by
  have ht := tot_pos g
  have hz : ∀ x : Nat, (if x = 0 then (0 : Int32) else -9) ≠ -9 → x = 0 := fun x hx => Classical.byContradiction (fun q => hx (if_neg q))
  refine ⟨Nat.le_refl 1, fun j hj => ⟨ht, by show (0 : Int32) ≠ -9; decide⟩, fun i j hij hj => ?_, fun x hx => ⟨0, Nat.zero_lt_one, (hz x hx).symm⟩, rfl, fun x hx => Or.inl (hz x hx), fun x hx => ⟨0, Nat.zero_lt_one, ?_⟩⟩
  · have hj' : j < 1 := hj
    omega
  · rw [hz x hx]; rfl
theorem vst_all {D : HD} (g : GH D) {set : Nat} {b : BS} (h : BI D set b) {p : Nat} (hp : p < tot D) (hv : b.1 p ≠ -9) : ∀ n, n ≤ ns D → BI D set (vst D set p n b) ∧ ext b (vst D set p n b) ∧ ∀ s, s < n → set.testBit s = true → (vst D set p n b).1 (mvn D s p) ≠ -9
  | 0, _ => ⟨h, ext.rfl b, fun s hs => absurd hs (Nat.not_lt_zero s)⟩
  | n + 1, hn => by
    obtain ⟨h1, h2, h3⟩ := vst_all g h hp hv n (by omega)
    show BI D set (if set.testBit n then vis (vst D set p n b) (mvn D n p) ((vst D set p n b).1 p + 1) else vst D set p n b) ∧ ext b (if set.testBit n then vis (vst D set p n b) (mvn D n p) ((vst D set p n b).1 p + 1) else vst D set p n b) ∧ ∀ s, s < n + 1 → set.testBit s = true → (if set.testBit n then vis (vst D set p n b) (mvn D n p) ((vst D set p n b).1 p + 1) else vst D set p n b).1 (mvn D s p) ≠ -9
    by_cases e : set.testBit n = true
    · rw [if_pos e]
      have hv' : (vst D set p n b).1 p ≠ -9 := by rw [h2.2.1 p hv]; exact hv
      obtain ⟨k1, k2⟩ := vis_BI g h1 (show n < ns D by omega) e hp hv'
      have k3 := vis_ext (vst D set p n b) (mvn D n p) ((vst D set p n b).1 p + 1)
      refine ⟨k1, h2.tr k3, fun s hs hb => ?_⟩
      by_cases q : s = n
      · rw [q]; exact k2
      · have := h3 s (by omega) hb
        rw [k3.2.1 _ this]
        exact this
    · rw [if_neg e]
      refine ⟨h1, h2, fun s hs hb => ?_⟩
      by_cases q : s = n
      · rw [q] at hb; exact absurd hb e
      · exact h3 s (by omega) hb
theorem bst_all {D : HD} (g : GH D) (set : Nat) : ∀ k, BI D set (bst D set k) ∧ ∀ j, j < k → j < (bst D set k).2.2 → ∀ s, s < ns D → set.testBit s = true → (bst D set k).1 (mvn D s ((bst D set k).2.1 j)) ≠ -9
  | 0 => ⟨bs0_BI g set, fun j hj => absurd hj (Nat.not_lt_zero j)⟩
  | k + 1 => by
    obtain ⟨h1, h2⟩ := bst_all g set k
    show BI D set (if k < (bst D set k).2.2 then vst D set ((bst D set k).2.1 k) (ns D) (bst D set k) else bst D set k) ∧ ∀ j, j < k + 1 → j < (if k < (bst D set k).2.2 then vst D set ((bst D set k).2.1 k) (ns D) (bst D set k) else bst D set k).2.2 → ∀ s, s < ns D → set.testBit s = true → (if k < (bst D set k).2.2 then vst D set ((bst D set k).2.1 k) (ns D) (bst D set k) else bst D set k).1 (mvn D s ((if k < (bst D set k).2.2 then vst D set ((bst D set k).2.1 k) (ns D) (bst D set k) else bst D set k).2.1 j)) ≠ -9
    by_cases e : k < (bst D set k).2.2
    · rw [if_pos e]
      have hk := h1.2.1 k e
      obtain ⟨k1, k2, k3⟩ := vst_all g h1 hk.1 hk.2 (ns D) (Nat.le_refl _)
      refine ⟨k1, fun j hj hj2 s hs hb => ?_⟩
      rw [k2.2.2 j (by omega)]
      by_cases q : j = k
      · rw [q]; exact k3 s hs hb
      · have := h2 j (by omega) (by omega) s hs hb
        rw [k2.2.1 _ this]
        exact this
    · rw [if_neg e]
      exact ⟨h1, fun j hj hj2 => h2 j (by omega) hj2⟩
theorem bst_end {D : HD} {set k : Nat} (h : (bst D set k).2.2 ≤ k) : ∀ m, bst D set (k + m) = bst D set k
  | 0 => rfl
  | m + 1 => by
    have ih := bst_end h m
    show (if k + m < (bst D set (k + m)).2.2 then vst D set ((bst D set (k + m)).2.1 (k + m)) (ns D) (bst D set (k + m)) else bst D set (k + m)) = bst D set k
    rw [ih, if_neg (by omega)]
theorem BF_of {D : HD} {set k : Nat} (h : (bst D set k).2.2 ≤ k) (hk : k ≤ tot D) : bst D set k = BF D set := by
  have := bst_end h (tot D - k)
  rw [show k + (tot D - k) = tot D by omega] at this
  exact this.symm
theorem BF_BI {D : HD} (g : GH D) (set : Nat) : BI D set (BF D set) := (bst_all g set (tot D)).1
theorem BF_cl {D : HD} (g : GH D) {set x s : Nat} (hx : (BF D set).1 x ≠ -9) (hs : s < ns D) (hb : set.testBit s = true) : (BF D set).1 (mvn D s x) ≠ -9 := by
  have h1 := BF_BI g set
  obtain ⟨j, hj, hjx⟩ := h1.2.2.2.1 x hx
  have := (bst_all g set (tot D)).2 j (Nat.lt_of_lt_of_le hj h1.le) hj s hs hb
  rw [show (bst D set (tot D)).2.1 j = x from hjx] at this
  exact this
theorem BF_lt {D : HD} (g : GH D) {set x : Nat} (hx : (BF D set).1 x ≠ -9) : x < tot D := by
  have h1 := BF_BI g set
  obtain ⟨j, hj, hjx⟩ := h1.2.2.2.1 x hx
  rw [← hjx]
  exact (h1.2.1 j hj).1
/-- every set that is so closed holds what is come to -/
theorem BF_min {D : HD} (g : GH D) {set : Nat} (Q : Nat → Prop) (h0 : Q 0) (hc : ∀ x s, Q x → s < ns D → set.testBit s = true → Q (mvn D s x)) : ∀ d x, (BF D set).1 x = nI d → d < 2 ^ 31 → Q x := by
  have h1 := BF_BI g set
  intro d
  induction d with
  | zero =>
    intro x hx _
    have hx9 : (BF D set).1 x ≠ -9 := by rw [hx]; exact m9 (by decide)
    rcases h1.2.2.2.2.2.1 x hx9 with e | ⟨s, p, d, a1, a2, a3, a4, a5, a6, a7⟩
    · rw [e]; exact h0
    · have ht := tot_le g
      have hl := h1.le
      rw [hx, neq (by decide) (by omega)] at a7
      omega
  | succ d ih =>
    intro x hx hd
    have hx9 : (BF D set).1 x ≠ -9 := by rw [hx]; exact m9 (by omega)
    rcases h1.2.2.2.2.2.1 x hx9 with e | ⟨s, p, d', a1, a2, a3, a4, a5, a6, a7⟩
    · rw [e]; exact h0
    · have ht := tot_le g
      have hl := h1.le
      rw [hx, neq (by omega) (by omega)] at a7
      rw [a4]
      exact hc p s (ih p (by rw [a5, show d' = d by omega]) (by omega)) a1 a2
/-! a press again and again comes round -/
def adt (D : HD) (y : Nat) : Nat → Nat → Nat
  | 0, x => x
  | n + 1, x => addn D (adt D y n x) y
theorem adt_lt {D : HD} (g : GH D) {x : Nat} (hx : x < tot D) (y : Nat) : ∀ n, adt D y n x < tot D
  | 0 => hx
  | n + 1 => addn_lt g _ _
theorem dg_adt {D : HD} (g : GH D) {l : Nat} (hl : l < nl D) (x y : Nat) : ∀ n, dg D (adt D y n x) l = (dg D x l + n * dg D y l) % sh D l
  | 0 => by
    show dg D x l = _
    rw [Nat.zero_mul, Nat.add_zero, Nat.mod_eq_of_lt (dg_lt g hl x)]
  | n + 1 => by
    show dg D (addn D (adt D y n x) y) l = _
    rw [dg_addn g hl, dg_adt g hl x y n, Nat.mod_add_mod, Nat.add_assoc, Nat.succ_mul]
theorem adt_60 {D : HD} (g : GH D) {x : Nat} (hx : x < tot D) (y : Nat) : adt D y 60 x = x := num_ext g (adt_lt g hx y 60) hx (fun l hl => by
  rw [dg_adt g hl]
  have h := g.2.2.1 l hl
  have : ∃ c, 60 = sh D l * c := by
    rcases (show sh D l = 2 ∨ sh D l = 3 ∨ sh D l = 4 ∨ sh D l = 5 by omega) with e | e | e | e <;> rw [e]
    · exact ⟨30, rfl⟩
    · exact ⟨20, rfl⟩
    · exact ⟨15, rfl⟩
    · exact ⟨12, rfl⟩
  obtain ⟨c, hc⟩ := this
  rw [hc, Nat.mul_assoc, Nat.add_mul_mod_self_left, Nat.mod_eq_of_lt (dg_lt g hl x)])
theorem adt_59 {D : HD} (g : GH D) {x : Nat} (hx : x < tot D) (y : Nat) : adt D y 59 x = addn D x (negn D y) := by
  have h : addn D (adt D y 59 x) y = x := adt_60 g hx y
  have h2 := addn_assoc g (adt D y 59 x) y (negn D y)
  rw [h, addn_neg g, addn_zero g (adt_lt g hx y 59)] at h2
  exact h2.symm
theorem adt_cl {D : HD} {y : Nat} {Q : Nat → Prop} (hc : ∀ x, Q x → Q (addn D x y)) {x : Nat} (hx : Q x) : ∀ n, Q (adt D y n x)
  | 0 => hx
  | n + 1 => hc _ (adt_cl hc hx n)
theorem neg_cl {D : HD} (g : GH D) {y : Nat} {Q : Nat → Prop} (hc : ∀ x, Q x → Q (addn D x y)) {x : Nat} (hx : Q x) (ht : x < tot D) : Q (addn D x (negn D y)) := by
  rw [← adt_59 g ht]
  exact adt_cl hc hx 59
theorem BF_bk {D : HD} (g : GH D) {set x s : Nat} (hx : (BF D set).1 x ≠ -9) (hs : s < ns D) (hb : set.testBit s = true) : (BF D set).1 (bkn D s x) ≠ -9 := by
  rw [bkn_eq g]
  exact neg_cl g (Q := fun z => (BF D set).1 z ≠ -9) (fun z hz => by rw [← mvn_eq g]; exact BF_cl g hz hs hb) hx (BF_lt g hx)
