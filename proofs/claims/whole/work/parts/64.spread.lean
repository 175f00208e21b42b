/-! the class's way through the queue -/
theorem bigT : (3125 : Nat) < BIG := by decide
theorem up_row (S : St) (k j : Nat) (v : Int32) (b : Nat) : up S k j v k b = if b = j then v else S k b := by rw [up_ap, if_pos rfl]
theorem X_measureIn {S : St} {D : HD} (h : XH S D) (g : GH D) {l : Nat} (hl : l < nl D) (x2 : Int32) : ∃ t, iter (fun q : St × Int32 => i_X2_measure_31 q.1 x2 (nI l) q.2) BIG (S, (0 : Int32)) = some t ∧ (∀ a, ¬ (16 ≤ a ∧ a < 21) → t.1 a = S a) ∧ ∀ s m, s < ns D → t.1 (16 + s) m = if m = l then nI (stp D s l) else S (16 + s) m := by
  have h5 := g.1
  have hs5 := g.2.1
  refine iter_rel (fun j (q : St × Int32) => q.2 = nI j ∧ (∀ a, ¬ (16 ≤ a ∧ a < 21) → q.1 a = S a) ∧ ∀ s m, s < 5 → q.1 (16 + s) m = if s < j ∧ m = l then nI (stp D s l) else S (16 + s) m) _ (ns D) ?_ ?_ _ ⟨rfl, fun _ _ => rfl, fun s m _ => by rw [if_neg (by omega)]⟩ (by have := bigN; omega)
  · intro j q hj hq
    obtain ⟨S1, x⟩ := q
    obtain ⟨e, hf, hr⟩ := hq
    have e : x = nI j := e
    subst e
    have hf : ∀ a, ¬ (16 ≤ a ∧ a < 21) → S1 a = S a := hf
    have hr : ∀ s m, s < 5 → S1 (16 + s) m = if s < j ∧ m = l then nI (stp D s l) else S (16 + s) m := hr
    have hX : XH S1 D := h.fr (fun a ha => hf a (by omega))
    refine ⟨(up S1 (16 + j) l (nI (stp D j l)), nI (j + 1)), ?_, rfl, fun a ha => ?_, fun s m hs => ?_⟩
    · show i_X2_measure_31 S1 x2 (nI l) (nI j) = _
      unfold i_X2_measure_31
      rw [hX.2.1, if_neg (by rw [nle (by omega) (by omega)]; omega), ck_t (okn (by omega) (by decide)), X_step hX g hj hl, bd_s, ck_t (okn (by omega) (by decide)), ixn (j := j) (by omega), ixn (j := l) (by omega), nadd1]
    · show up S1 (16 + j) l (nI (stp D j l)) a = S a
      rw [up_ne _ _ _ _ (by omega)]
      exact hf a ha
    · show up S1 (16 + j) l (nI (stp D j l)) (16 + s) m = _
      rw [up_ap, hr s m hs]
      by_cases q : s = j
      · subst q
        rw [if_pos rfl]
        by_cases r : m = l
        · rw [if_pos r, if_pos ⟨by omega, r⟩]
        · rw [if_neg r, hr s m hs, if_neg (fun z : s < s ∧ m = l => r z.2), if_neg (fun z : s < s + 1 ∧ m = l => r z.2)]
      · rw [if_neg (by omega)]
        by_cases r : s < j ∧ m = l
        · rw [if_pos r, if_pos ⟨by omega, r.2⟩]
        · rw [if_neg r, if_neg (fun z => r ⟨by omega, z.2⟩)]
  · intro q hq
    obtain ⟨S1, x⟩ := q
    obtain ⟨e, hf, hr⟩ := hq
    have e : x = nI (ns D) := e
    subst e
    have hf : ∀ a, ¬ (16 ≤ a ∧ a < 21) → S1 a = S a := hf
    have hr : ∀ s m, s < 5 → S1 (16 + s) m = if s < ns D ∧ m = l then nI (stp D s l) else S (16 + s) m := hr
    have hX : XH S1 D := h.fr (fun a ha => hf a (by omega))
    refine ⟨(S1, nI (ns D)), ?_, hf, fun s m hs => ?_⟩
    · show i_X2_measure_31 S1 x2 (nI l) (nI (ns D)) = _
      unfold i_X2_measure_31
      rw [hX.2.1, if_pos (by rw [nle (by omega) (by omega)]; omega)]
    · show S1 (16 + s) m = _
      rw [hr s m (by omega)]
      by_cases r : m = l
      · rw [if_pos ⟨hs, r⟩, if_pos r]
      · rw [if_neg (fun z => r z.2), if_neg r]
theorem X_measure {S : St} {D : HD} (h : XH S D) (g : GH D) : ∃ S', f_X2_measure S = some (nI (tot D), S') ∧ (∀ a, a ≠ 29 → ¬ (16 ≤ a ∧ a < 21) → S' a = S a) ∧ WS S' D := by
  have h5 := g.1
  have hs5 := g.2.1
  obtain ⟨t, ht, hT⟩ := iter_rel (it := fun q : St × Int32 × Int32 => i_X2_measure_4 q.1 q.2.1 q.2.2) (fun i q => q.2.1 = nI (wt D i) ∧ q.2.2 = nI i ∧ (∀ a, a ≠ 29 → ¬ (16 ≤ a ∧ a < 21) → q.1 a = S a) ∧ (∀ l, l < i → q.1 29 l = nI (wt D l)) ∧ ∀ s, s < ns D → ∀ l, l < i → q.1 (16 + s) l = nI (stp D s l)) (fun t => t.2.1 = nI (tot D) ∧ (∀ a, a ≠ 29 → ¬ (16 ≤ a ∧ a < 21) → t.1 a = S a) ∧ WS t.1 D) (nl D) (by
    intro i q hi hq
    obtain ⟨S1, x2, x3⟩ := q
    obtain ⟨e2, e3, hf, hw, hr⟩ := hq
    have e2 : x2 = nI (wt D i) := e2
    have e3 : x3 = nI i := e3
    subst e2
    subst e3
    have hf : ∀ a, a ≠ 29 → ¬ (16 ≤ a ∧ a < 21) → S1 a = S a := hf
    have hw : ∀ l, l < i → S1 29 l = nI (wt D l) := hw
    have hr : ∀ s, s < ns D → ∀ l, l < i → S1 (16 + s) l = nI (stp D s l) := hr
    have hX : XH S1 D := h.fr (fun a ha => hf a (by omega) (by omega))
    have hX2 : XH (up S1 29 i (nI (wt D i))) D := hX.fr (fun a ha => up_ne _ _ _ _ (by omega))
    obtain ⟨t, ht, hf2, hr2⟩ := X_measureIn hX2 g hi (nI (wt D (i + 1)))
    refine ⟨(t.1, nI (wt D (i + 1)), nI (i + 1)), ?_, rfl, rfl, fun a ha hb => ?_, fun l hl => ?_, fun s hs l hl => ?_⟩
    · show i_X2_measure_4 S1 (nI (wt D i)) (nI i) = _
      unfold i_X2_measure_4
      have e : nI (wt D i) * (up S1 29 i (nI (wt D i))) 22 i = nI (wt D (i + 1)) := by
        rw [hX2.2.2.1 i hi, pk_mul]
        rfl
      simp only [hX.1, if_neg (show ¬ nI (nl D) ≤ nI i by rw [nle (by omega) (by omega)]; omega), ck_t (okn (j := i) (n := 5) (by omega) (by decide)), ixn (j := i) (by omega), e, n0] at ht ⊢
      rw [ht, bd_s, nadd1]
    · show t.1 a = S a
      rw [hf2 a hb, up_ne _ _ _ _ ha, hf a ha hb]
    · show t.1 29 l = _
      rw [hf2 29 (by omega), up_row]
      by_cases e : l = i
      · rw [if_pos e, e]
      · rw [if_neg e]; exact hw l (by omega)
    · show t.1 (16 + s) l = _
      rw [hr2 s l hs, up_ne _ _ _ _ (by omega)]
      by_cases e : l = i
      · rw [if_pos e, e]
      · rw [if_neg e]; exact hr s hs l (by omega)) (by
    intro q hq
    obtain ⟨S1, x2, x3⟩ := q
    obtain ⟨e2, e3, hf, hw, hr⟩ := hq
    have e2 : x2 = nI (wt D (nl D)) := e2
    have e3 : x3 = nI (nl D) := e3
    subst e2
    subst e3
    have hf : ∀ a, a ≠ 29 → ¬ (16 ≤ a ∧ a < 21) → S1 a = S a := hf
    have hX : XH S1 D := h.fr (fun a ha => hf a (by omega) (by omega))
    refine ⟨(S1, nI (wt D (nl D)), nI (nl D)), ?_, rfl, hf, hw, hr⟩
    show i_X2_measure_4 S1 (nI (wt D (nl D))) (nI (nl D)) = _
    unfold i_X2_measure_4
    rw [hX.1, if_pos (by rw [nle (by omega) (by omega)]; omega)]) (S, (1 : Int32), (0 : Int32)) ⟨rfl, rfl, fun _ _ _ => rfl, fun l hl => absurd hl (Nat.not_lt_zero l), fun _ _ l hl => absurd hl (Nat.not_lt_zero l)⟩ (by have := bigN; omega)
  obtain ⟨t1, t2, t3⟩ := hT
  refine ⟨t.1, ?_, t2, t3⟩
  unfold f_X2_measure
  rw [ht, bd_s, t1]
def AX (D : HD) (S : St) (b : BS) : Prop := (∀ x, x < tot D → S 31 x = b.1 x) ∧ (∀ j, j < b.2.2 → S 32 j = nI (b.2.1 j)) ∧ S 3 5 = nI b.2.2
theorem X_fewestTo {S : St} {x : Nat} (hx : x < 3125) : f_X2_fewestTo S (nI x) = some (S 31 x) := by
  unfold f_X2_fewestTo
  rw [if_neg (nnot0 (by omega)), if_neg (by rw [n3125, nle (by decide) (by omega)]; omega), ck_t (okn hx (by decide)), ixn (by omega)]
theorem X_meet {S : St} {D : HD} (g : GH D) {b : BS} (hA : AX D S b) {x : Nat} (hx : x < tot D) (hc : b.2.2 ≤ 3125) (hlt : b.1 x = -9 → b.2.2 < 3125) (d : Int32) : ∃ S', f_X2_meet S (nI x) d = some S' ∧ AX D S' (vis b x d) ∧ ∀ a, a ≠ 3 → a ≠ 31 → a ≠ 32 → S' a = S a := by
  have ht := tot_le g
  obtain ⟨h1, h2, h3⟩ := hA
  unfold f_X2_meet
  rw [if_neg (nnot0 (by omega)), if_neg (by rw [n3125, nle (by decide) (by omega)]; omega), h3]
  by_cases e : b.1 x = -9
  · have hl := hlt e
    have ev : vis b x d = (fun y => if y = x then d else b.1 y, fun j => if j = b.2.2 then x else b.2.1 j, b.2.2 + 1) := by unfold vis; rw [if_pos e]
    have e35 : (up S 31 x d) 3 5 = nI b.2.2 := by rw [up_ne _ _ _ _ (by decide), h3]
    have e35' : (up (up S 31 x d) 32 b.2.2 (nI x)) 3 5 = nI b.2.2 := by rw [up_ne _ _ _ _ (by decide), e35]
    refine ⟨up (up (up S 31 x d) 32 b.2.2 (nI x)) 3 5 (nI (b.2.2 + 1)), ?_, ?_, fun a ha hb hc' => by rw [up_ne _ _ _ _ ha, up_ne _ _ _ _ hc', up_ne _ _ _ _ hb]⟩
    · simp only [if_neg (show ¬ (3125 : Int32) ≤ nI b.2.2 by rw [n3125, nle (by decide) (by omega)]; omega), ck_t (okn (j := x) (n := 3125) (by omega) (by decide)), ixn (j := x) (by omega), h1 x hx, if_pos e, e35, ck_t (okn (j := b.2.2) (n := 3125) hl (by decide)), ixn (j := b.2.2) (by omega), e35', nadd1]
    · rw [ev]
      refine ⟨fun y hy => ?_, fun j hj => ?_, ?_⟩
      · show up (up (up S 31 x d) 32 b.2.2 (nI x)) 3 5 (nI (b.2.2 + 1)) 31 y = if y = x then d else b.1 y
        rw [up_ne _ _ _ _ (by decide), up_ne _ _ _ _ (by decide), up_row, h1 y hy]
      · have hj' : j < b.2.2 + 1 := hj
        show up (up (up S 31 x d) 32 b.2.2 (nI x)) 3 5 (nI (b.2.2 + 1)) 32 j = nI (if j = b.2.2 then x else b.2.1 j)
        rw [up_ne _ _ _ _ (by decide), up_row, up_ne _ _ _ _ (by decide)]
        by_cases q : j = b.2.2
        · rw [if_pos q, if_pos q]
        · rw [if_neg q, if_neg q, h2 j (by omega)]
      · show up (up (up S 31 x d) 32 b.2.2 (nI x)) 3 5 (nI (b.2.2 + 1)) 3 5 = nI (b.2.2 + 1)
        rw [up_row, if_pos rfl]
  · have ev : vis b x d = b := by unfold vis; rw [if_neg e]
    refine ⟨S, ?_, by rw [ev]; exact ⟨h1, h2, h3⟩, fun _ _ _ _ => rfl⟩
    by_cases q : (3125 : Int32) ≤ nI b.2.2
    · rw [if_pos q]
    · rw [if_neg q, ck_t (okn (by omega) (by decide)), ixn (by omega), h1 x hx, if_neg e]
theorem X_spreadIn {S : St} {D : HD} (h : XH S D) (g : GH D) (hw : WS S D) {set p : Nat} {b : BS} (hset : set < 32) (hB : BI D set b) (hA : AX D S b) (hp : p < tot D) (hv : b.1 p ≠ -9) (hd : ∀ l, l < nl D → S 30 l = nI (dg D p l)) (x4 : Int32) : ∃ t, iter (fun q : St × Int32 => i_X2_spread_97 q.1 (nI set) x4 (nI p) q.2) BIG (S, (0 : Int32)) = some t ∧ AX D t.1 (vst D set p (ns D) b) ∧ ∀ a, a ≠ 3 → a ≠ 31 → a ≠ 32 → t.1 a = S a := by
  have hs5 := g.2.1
  have ht := tot_le g
  refine iter_rel (fun n (q : St × Int32) => q.2 = nI n ∧ AX D q.1 (vst D set p n b) ∧ ∀ a, a ≠ 3 → a ≠ 31 → a ≠ 32 → q.1 a = S a) _ (ns D) ?_ ?_ _ ⟨rfl, hA, fun _ _ _ _ => rfl⟩ (by have := bigN; omega)
  · intro n q hn hq
    obtain ⟨S1, x⟩ := q
    obtain ⟨e, hA1, hf⟩ := hq
    have e : x = nI n := e
    subst e
    have hA1 : AX D S1 (vst D set p n b) := hA1
    have hf : ∀ a, a ≠ 3 → a ≠ 31 → a ≠ 32 → S1 a = S a := hf
    have hX : XH S1 D := h.fr (fun a ha => hf a (by omega) (by omega) (by omega))
    have hw1 : WS S1 D := ⟨fun l hl => by rw [hf 29 (by decide) (by decide) (by decide)]; exact hw.1 l hl, fun s hs l hl => by rw [hf (16 + s) (by omega) (by omega) (by omega)]; exact hw.2 s hs l hl⟩
    have hd1 : ∀ l, l < nl D → S1 30 l = nI (dg D p l) := fun l hl => by rw [hf 30 (by decide) (by decide) (by decide)]; exact hd l hl
    obtain ⟨k1, k2, k3⟩ := vst_all g hB hp hv n (by omega)
    have hle := k1.le
    show ∃ s' : St × Int32, i_X2_spread_97 S1 (nI set) x4 (nI p) (nI n) = some (.inl s') ∧ s'.2 = nI (n + 1) ∧ AX D s'.1 (if set.testBit n then vis (vst D set p n b) (mvn D n p) ((vst D set p n b).1 p + 1) else vst D set p n b) ∧ ∀ a, a ≠ 3 → a ≠ 31 → a ≠ 32 → s'.1 a = S a
    unfold i_X2_spread_97
    rw [hX.2.1, if_neg (by rw [nle (by omega) (by omega)]; omega)]
    by_cases e : set.testBit n = true
    · rw [if_pos ((bit_of set hset n (by omega)).mpr e), if_pos e, X_numUp hX g hw1 hn hd1, bd_s, X_fewestTo (by omega), bd_s, hA1.1 p hp]
      obtain ⟨S2, m1, m2, m3⟩ := X_meet g hA1 (mvn_lt g n p) (by omega) (fun q => by have := k1.lt (mvn_lt g n p) q; omega) ((vst D set p n b).1 p + 1)
      refine ⟨(S2, nI (n + 1)), by rw [m1, bd_s, nadd1], rfl, m2, fun a ha hb hc => ?_⟩
      show S2 a = S a
      rw [m3 a ha hb hc, hf a ha hb hc]
    · rw [if_neg (fun q => e ((bit_of set hset n (by omega)).mp q)), if_neg e]
      exact ⟨(S1, nI (n + 1)), by rw [nadd1], rfl, hA1, hf⟩
  · intro q hq
    obtain ⟨S1, x⟩ := q
    obtain ⟨e, hA1, hf⟩ := hq
    have e : x = nI (ns D) := e
    subst e
    have hf : ∀ a, a ≠ 3 → a ≠ 31 → a ≠ 32 → S1 a = S a := hf
    refine ⟨(S1, nI (ns D)), ?_, hA1, hf⟩
    show i_X2_spread_97 S1 (nI set) x4 (nI p) (nI (ns D)) = _
    unfold i_X2_spread_97
    rw [hf 1 (by decide) (by decide) (by decide), h.2.1, if_pos (by rw [nle (by omega) (by omega)]; omega)]
theorem X_spreadOut {S : St} {D : HD} (h : XH S D) (g : GH D) (hw : WS S D) {set : Nat} (hset : set < 32) (hA : AX D S bs0) : ∃ t, iter (fun q : St × Int32 => i_X2_spread_61 q.1 (nI set) q.2) BIG (S, (0 : Int32)) = some t ∧ AX D t.1 (BF D set) ∧ ∀ a, a ≠ 3 → a ≠ 30 → a ≠ 31 → a ≠ 32 → t.1 a = S a := by
  have hs5 := g.2.1
  have h5 := g.1
  have ht := tot_le g
  refine iter_wh (fun q : St × Int32 => ∃ k, q.2 = nI k ∧ k ≤ tot D ∧ AX D q.1 (bst D set k) ∧ ∀ a, a ≠ 3 → a ≠ 30 → a ≠ 31 → a ≠ 32 → q.1 a = S a) _ (fun q => tot D - ix q.2) ?_ _ ⟨0, rfl, Nat.zero_le _, hA, fun _ _ _ _ _ => rfl⟩ (by
    have : (3125 : Nat) < BIG := by decide
    show tot D - _ < BIG
    omega)
  intro q hq
  obtain ⟨S1, x⟩ := q
  obtain ⟨k, e, hk, hA1, hf⟩ := hq
  have e : x = nI k := e
  subst e
  have hA1 : AX D S1 (bst D set k) := hA1
  have hf : ∀ a, a ≠ 3 → a ≠ 30 → a ≠ 31 → a ≠ 32 → S1 a = S a := hf
  obtain ⟨b1, b2⟩ := bst_all g set k
  have hle := b1.le
  by_cases hc : (bst D set k).2.2 ≤ k
  · right
    refine ⟨(S1, nI k), ?_, ?_, hf⟩
    · show i_X2_spread_61 S1 (nI set) (nI k) = _
      unfold i_X2_spread_61
      rw [hA1.2.2, if_pos (by rw [nle (by omega) (by omega)]; exact hc)]
    · rw [← BF_of hc hk]
      exact hA1
  · left
    have hX : XH S1 D := h.fr (fun a ha => hf a (by omega) (by omega) (by omega) (by omega))
    have hw1 : WS S1 D := ⟨fun l hl => by rw [hf 29 (by decide) (by decide) (by decide) (by decide)]; exact hw.1 l hl, fun s hs l hl => by rw [hf (16 + s) (by omega) (by omega) (by omega) (by omega)]; exact hw.2 s hs l hl⟩
    have hp := b1.2.1 k (by omega)
    have e32 := hA1.2.1 k (by omega)
    have ef : ∀ a, a ≠ 30 → fill S1 30 (nl D) (fun l => nI (dg D ((bst D set k).2.1 k) l)) a = S1 a := fun a ha => fill_ne _ _ _ _ ha
    obtain ⟨t, t1, t2, t3⟩ := X_spreadIn (S := fill S1 30 (nl D) (fun l => nI (dg D ((bst D set k).2.1 k) l))) (hX.fr (fun a ha => ef a (by omega))) g ⟨fun l hl => by rw [ef 29 (by decide)]; exact hw1.1 l hl, fun s hs l hl => by rw [ef (16 + s) (by omega)]; exact hw1.2 s hs l hl⟩ hset b1 ⟨by rw [ef 31 (by decide)]; exact hA1.1, by rw [ef 32 (by decide)]; exact hA1.2.1, by rw [ef 3 (by decide)]; exact hA1.2.2⟩ hp.1 hp.2 (fun l hl => fill_lo hl) (nI k)
    refine ⟨(t.1, nI (k + 1)), ?_, ⟨k + 1, rfl, by omega, ?_, fun a ha hb hc hd => ?_⟩, ?_⟩
    · show i_X2_spread_61 S1 (nI set) (nI k) = _
      unfold i_X2_spread_61
      rw [hA1.2.2, if_neg (by rw [nle (by omega) (by omega)]; exact hc), if_neg (by rw [n3125, nle (by omega) (by omega)]; omega), ck_t (okn (by omega) (by decide)), ixn (j := k) (by omega), e32, X_split hX g (by omega), bd_s, t1, bd_s, nadd1]
    · show AX D t.1 (if k < (bst D set k).2.2 then vst D set ((bst D set k).2.1 k) (ns D) (bst D set k) else bst D set k)
      rw [if_pos (by omega)]
      exact t2
    · show t.1 a = S a
      rw [t3 a ha hc hd, ef a hb, hf a ha hb hc hd]
    · show tot D - ix (nI (k + 1)) < tot D - ix (nI k)
      rw [ixn (by omega), ixn (by omega)]
      omega
theorem X_spread {S : St} {D : HD} (h : XH S D) (g : GH D) (hC : Cch D S) {set : Nat} (hset : set < 32) : ∃ S', f_X2_spread S (nI set) = some S' ∧ S' 3 6 = nI set ∧ S' 3 5 = nI (BF D set).2.2 ∧ (∀ x, x < tot D → S' 31 x = (BF D set).1 x) ∧ WS S' D ∧ ∀ a, a ≠ 3 → a ≠ 29 → ¬ (16 ≤ a ∧ a < 21) → a ≠ 30 → a ≠ 31 → a ≠ 32 → S' a = S a := by
  have ht := tot_le g
  have htp := tot_pos g
  unfold f_X2_spread
  by_cases e : nI set = S 3 6
  · rw [if_pos e]
    rcases hC with hC | ⟨set', c1, c2, c3, c4, c5, c6⟩
    · rw [hC] at e
      exact absurd e (nneg_ne (by omega) (by decide))
    · rw [c2, neq (by omega) (by omega)] at e
      subst e
      exact ⟨S, rfl, c2, c3, c4, ⟨c5, c6⟩, fun _ _ _ _ _ _ _ => rfl⟩
  · rw [if_neg e]
    obtain ⟨S1, m1, m2, m3⟩ := X_measure h g
    rw [m1, bd_s]
    show ∃ S', bd (iter (fun q : St × Int32 => i_X2_spread_18 q.1 (nI set) (nI (tot D)) q.2) BIG (S1, (0 : Int32))) (fun q18 => j_X2_spread_47 q18.1 (nI set)) = some S' ∧ _
    rw [iter_to (fun i => (fill S1 31 i (fun _ => (-9 : Int32)), nI i)) (tot D) (t := (fill S1 31 (tot D) (fun _ => (-9 : Int32)), nI (tot D))) (by rw [fill_0]; rfl) (by
      intro i hi
      show i_X2_spread_18 (fill S1 31 i (fun _ => (-9 : Int32))) (nI set) (nI (tot D)) (nI i) = _
      unfold i_X2_spread_18
      rw [if_neg (by rw [nle (by omega) (by omega)]; omega), if_neg (by rw [n3125, nle (by omega) (by omega)]; omega), ck_t (okn (by omega) (by decide)), ixn (by omega), fill_up' rfl, nadd1]) (by
      show i_X2_spread_18 (fill S1 31 (tot D) (fun _ => (-9 : Int32))) (nI set) (nI (tot D)) (nI (tot D)) = _
      unfold i_X2_spread_18
      rw [if_pos (by rw [nle (by omega) (by omega)]; omega)]) (by have := bigT; omega), bd_s]
    show ∃ S', j_X2_spread_47 (fill S1 31 (tot D) (fun _ => (-9 : Int32))) (nI set) = some S' ∧ _
    unfold j_X2_spread_47
    obtain ⟨S2, p1, p2, p3⟩ := X_meet (S := up (fill S1 31 (tot D) (fun _ => (-9 : Int32))) 3 5 (0 : Int32)) g (b := (fun _ => -9, fun _ => 0, 0)) ⟨fun x hx => by rw [up_ne _ _ _ _ (by decide), fill_lo hx], fun j hj => absurd hj (Nat.not_lt_zero j), by rw [up_row, if_pos rfl]; rfl⟩ htp (by show 0 ≤ 3125; decide) (fun _ => by show 0 < 3125; decide) (0 : Int32)
    have p1 : f_X2_meet (up (fill S1 31 (tot D) (fun _ => (-9 : Int32))) 3 5 (0 : Int32)) (0 : Int32) (0 : Int32) = some S2 := p1
    have ev : vis (fun _ => -9, fun _ => 0, 0) 0 0 = bs0 := by
      unfold vis bs0
      rw [if_pos (show (-9 : Int32) = -9 from rfl)]
      refine Prod.ext rfl (Prod.ext ?_ rfl)
      funext j
      show (if j = 0 then 0 else 0) = 0
      split <;> rfl
    rw [ev] at p2
    have f2 : ∀ a, a ≠ 3 → a ≠ 31 → a ≠ 32 → S2 a = S1 a := fun a ha hb hc => by rw [p3 a ha hb hc, up_ne _ _ _ _ ha, fill_ne _ _ _ _ hb]
    have hX2 : XH S2 D := h.fr (fun a ha => by rw [f2 a (by omega) (by omega) (by omega), m2 a (by omega) (by omega)])
    have hw2 : WS S2 D := ⟨fun l hl => by rw [f2 29 (by decide) (by decide) (by decide)]; exact m3.1 l hl, fun s hs l hl => by
      have hs5 := g.2.1
      rw [f2 (16 + s) (by omega) (by omega) (by omega)]; exact m3.2 s hs l hl⟩
    obtain ⟨t, t1, t2, t3⟩ := X_spreadOut hX2 g hw2 hset p2
    rw [p1, bd_s, t1, bd_s]
    refine ⟨_, rfl, by rw [up_row, if_pos rfl], by rw [up_row, if_neg (by decide)]; exact t2.2.2, fun x hx => by rw [up_ne _ _ _ _ (by decide)]; exact t2.1 x hx, ⟨fun l hl => ?_, fun s hs l hl => ?_⟩, fun a a1 a2 a3 a4 a5 a6 => ?_⟩
    · rw [up_ne _ _ _ _ (by decide), t3 29 (by decide) (by decide) (by decide) (by decide)]
      exact hw2.1 l hl
    · have hs5 := g.2.1
      rw [up_ne _ _ _ _ (by omega), t3 (16 + s) (by omega) (by omega) (by omega) (by omega)]
      exact hw2.2 s hs l hl
    · rw [up_ne _ _ _ _ a1, t3 a a1 a4 a5 a6, f2 a a1 a5 a6, m2 a a2 a3]
