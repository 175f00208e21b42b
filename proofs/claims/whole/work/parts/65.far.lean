/-! the reference's way through the queue -/
def AM (D : HD) (S : St) (b : BS) : Prop := (∀ x, x < tot D → S 13 x = b.1 x) ∧ ∀ j, j < b.2.2 → S 14 j = nI (b.2.1 j)
def full (D : HD) : Nat := 2 ^ ns D - 1
theorem full_bit {D : HD} {s : Nat} (h : s < ns D) : (full D).testBit s = true := by
  unfold full
  rw [Nat.testBit_two_pow_sub_one]
  exact decide_eq_true h
theorem full_lt {D : HD} (g : GH D) : full D < 32 := by
  unfold full
  have h : 2 ^ ns D ≤ 2 ^ 5 := Nat.pow_le_pow_right (by decide) g.2.1
  have h0 : 0 < 2 ^ ns D := Nat.pow_pos (by decide)
  have : (2 : Nat) ^ 5 = 32 := by decide
  omega
theorem M_farIn {S : St} {D : HD} (h : MH S D) (g : GH D) {k : Nat} {b : BS} (hB : BI D (full D) b) (hA : AM D S b) (hk : k < b.2.2) : ∃ t, iter (fun q : St × Int32 × Int32 => i_X7_findFar_52 q.1 (nI k) q.2.1 q.2.2) BIG (S, nI b.2.2, (0 : Int32)) = some t ∧ AM D t.1 (vst D (full D) (b.2.1 k) (ns D) b) ∧ t.2.1 = nI (vst D (full D) (b.2.1 k) (ns D) b).2.2 ∧ ∀ a, a ≠ 13 → a ≠ 14 → t.1 a = S a := by
  have hs5 := g.2.1
  have ht := tot_le g
  have hp := hB.2.1 k hk
  refine iter_rel (fun n (q : St × Int32 × Int32) => q.2.2 = nI n ∧ q.2.1 = nI (vst D (full D) (b.2.1 k) n b).2.2 ∧ AM D q.1 (vst D (full D) (b.2.1 k) n b) ∧ ∀ a, a ≠ 13 → a ≠ 14 → q.1 a = S a) _ (ns D) ?_ ?_ _ ⟨rfl, rfl, hA, fun _ _ _ => rfl⟩ (by have := bigN; omega)
  · intro n q hn hq
    obtain ⟨S1, x2, x⟩ := q
    obtain ⟨e, e2, hA1, hf⟩ := hq
    have e : x = nI n := e
    have e2 : x2 = nI (vst D (full D) (b.2.1 k) n b).2.2 := e2
    subst e
    subst e2
    have hA1 : AM D S1 (vst D (full D) (b.2.1 k) n b) := hA1
    have hf : ∀ a, a ≠ 13 → a ≠ 14 → S1 a = S a := hf
    have hX : MH S1 D := h.fr (by rw [hf 0 (by decide) (by decide)]) (by rw [hf 0 (by decide) (by decide)]) (fun a ha => hf a (by omega) (by omega))
    obtain ⟨k1, k2, k3⟩ := vst_all g hB hp.1 hp.2 n (by omega)
    have hle := k1.le
    have hbn := full_bit hn
    have e14 : S1 14 k = nI (b.2.1 k) := by rw [hA1.2 k (Nat.lt_of_lt_of_le hk k2.1), k2.2.2 k hk]
    have hm := mvn_lt g n (b.2.1 k)
    have hkl := Nat.lt_of_lt_of_le hk k2.1
    have hpt := hp.1
    show ∃ s' : St × Int32 × Int32, i_X7_findFar_52 S1 (nI k) (nI (vst D (full D) (b.2.1 k) n b).2.2) (nI n) = some (.inl s') ∧ s'.2.2 = nI (n + 1) ∧ s'.2.1 = nI (if (full D).testBit n then vis (vst D (full D) (b.2.1 k) n b) (mvn D n (b.2.1 k)) ((vst D (full D) (b.2.1 k) n b).1 (b.2.1 k) + 1) else vst D (full D) (b.2.1 k) n b).2.2 ∧ AM D s'.1 (if (full D).testBit n then vis (vst D (full D) (b.2.1 k) n b) (mvn D n (b.2.1 k)) ((vst D (full D) (b.2.1 k) n b).1 (b.2.1 k) + 1) else vst D (full D) (b.2.1 k) n b) ∧ ∀ a, a ≠ 13 → a ≠ 14 → s'.1 a = S a
    rw [if_pos hbn]
    generalize hbe : vst D (full D) (b.2.1 k) n b = c at *
    generalize hpe : b.2.1 k = p at *
    unfold i_X7_findFar_52
    rw [hX.2.1, if_neg (by rw [nle (by omega) (by omega)]; omega), ck_t (okn (by omega) (by decide)), ixn (j := k) (by omega), e14, M_moved hX g hn (by omega) false, bd_s, if_neg (show ¬ false = true by decide), ck_t (okn (by omega) (by decide)), ixn (j := mvn D n p) (by omega), hA1.1 _ hm]
    by_cases e : c.1 (mvn D n p) = -9
    · have hl := k1.lt hm e
      have ev : vis c (mvn D n p) (c.1 p + 1) = (fun y => if y = mvn D n p then c.1 p + 1 else c.1 y, fun j => if j = c.2.2 then mvn D n p else c.2.1 j, c.2.2 + 1) := by unfold vis; rw [if_pos e]
      rw [if_pos e, ck_t (okn (by omega) (by decide)), ck_t (okn (by omega) (by decide)), ck_t (okn (by omega) (by decide)), ck_t (okn (by omega) (by decide)), ixn (j := p) (by omega), ixn (j := c.2.2) (by omega), hA1.1 p hpt, nadd1, nadd1, ev]
      refine ⟨_, rfl, rfl, rfl, ⟨fun y hy => ?_, fun j hj => ?_⟩, fun a ha hb => ?_⟩
      · show up (up S1 13 (mvn D n p) (c.1 p + 1)) 14 c.2.2 (nI (mvn D n p)) 13 y = if y = mvn D n p then c.1 p + 1 else c.1 y
        rw [up_ne _ _ _ _ (by decide), up_row, hA1.1 y hy]
      · have hj' : j < c.2.2 + 1 := hj
        show up (up S1 13 (mvn D n p) (c.1 p + 1)) 14 c.2.2 (nI (mvn D n p)) 14 j = nI (if j = c.2.2 then mvn D n p else c.2.1 j)
        rw [up_row, up_ne _ _ _ _ (by decide)]
        by_cases q : j = c.2.2
        · rw [if_pos q, if_pos q]
        · rw [if_neg q, if_neg q, hA1.2 j (by omega)]
      · show up (up S1 13 (mvn D n p) (c.1 p + 1)) 14 c.2.2 (nI (mvn D n p)) a = S a
        rw [up_ne _ _ _ _ hb, up_ne _ _ _ _ ha]
        exact hf a ha hb
    · have ev : vis c (mvn D n p) (c.1 p + 1) = c := by unfold vis; rw [if_neg e]
      rw [if_neg e, ev, nadd1]
      exact ⟨_, rfl, rfl, rfl, hA1, hf⟩
  · intro q hq
    obtain ⟨S1, x2, x⟩ := q
    obtain ⟨e, e2, hA1, hf⟩ := hq
    have e : x = nI (ns D) := e
    have e2 : x2 = nI (vst D (full D) (b.2.1 k) (ns D) b).2.2 := e2
    subst e
    subst e2
    have hA1 : AM D S1 (vst D (full D) (b.2.1 k) (ns D) b) := hA1
    have hf : ∀ a, a ≠ 13 → a ≠ 14 → S1 a = S a := hf
    refine ⟨(S1, nI (vst D (full D) (b.2.1 k) (ns D) b).2.2, nI (ns D)), ?_, hA1, rfl, hf⟩
    show i_X7_findFar_52 S1 (nI k) (nI (vst D (full D) (b.2.1 k) (ns D) b).2.2) (nI (ns D)) = _
    unfold i_X7_findFar_52
    rw [hf 0 (by decide) (by decide), h.2.1, if_pos (by rw [nle (by omega) (by omega)]; omega)]
theorem M_findFar {S : St} {D : HD} (h : MH S D) (g : GH D) : ∃ S', f_X7_findFar S = some S' ∧ (∀ x, x < tot D → S' 13 x = (BF D (full D)).1 x) ∧ ∀ a, a ≠ 13 → a ≠ 14 → S' a = S a := by
  have ht := tot_le g
  have htp := tot_pos g
  unfold f_X7_findFar
  rw [M_many h g, bd_s, iter_to (fun i => (fill S 13 i (fun _ => (-9 : Int32)), nI i)) (tot D) (t := (fill S 13 (tot D) (fun _ => (-9 : Int32)), nI (tot D))) (by rw [fill_0]; rfl) (by
      intro i hi
      show i_X7_findFar_7 (fill S 13 i (fun _ => (-9 : Int32))) (nI (tot D)) (nI i) = _
      unfold i_X7_findFar_7
      rw [if_neg (by rw [nle (by omega) (by omega)]; omega), ck_t (okn (by omega) (by decide)), ixn (by omega), fill_up' rfl, nadd1]) (by
      show i_X7_findFar_7 (fill S 13 (tot D) (fun _ => (-9 : Int32))) (nI (tot D)) (nI (tot D)) = _
      unfold i_X7_findFar_7
      rw [if_pos (by rw [nle (by omega) (by omega)]; omega)]) (by have := bigT; omega), bd_s, ck_t (show okx 0 3125 from okn (j := 0) (by decide) (by decide)), ck_t (show okx 0 3125 from okn (j := 0) (by decide) (by decide)), show ix (0 : Int32) = 0 from ixn (j := 0) (by decide)]
  have f0 : ∀ a, a ≠ 13 → a ≠ 14 → (up (up (fill S 13 (tot D) (fun _ => (-9 : Int32))) 13 0 (0 : Int32)) 14 0 (0 : Int32)) a = S a := fun a ha hb => by rw [up_ne _ _ _ _ hb, up_ne _ _ _ _ ha, fill_ne _ _ _ _ ha]
  have hA0 : AM D (up (up (fill S 13 (tot D) (fun _ => (-9 : Int32))) 13 0 (0 : Int32)) 14 0 (0 : Int32)) bs0 := by
    refine ⟨fun x hx => ?_, fun j hj => ?_⟩
    · rw [up_ne _ _ _ _ (by decide), up_row, fill_lo hx]
      rfl
    · have hj' : j < 1 := hj
      rw [up_row, if_pos (by omega)]
      rfl
  show ∃ S', bd (iter (fun q : St × Int32 × Int32 => i_X7_findFar_44 q.1 q.2.1 q.2.2) BIG (up (up (fill S 13 (tot D) (fun _ => (-9 : Int32))) 13 0 (0 : Int32)) 14 0 (0 : Int32), (1 : Int32), (0 : Int32))) (fun q44 => some q44.1) = some S' ∧ _
  generalize up (up (fill S 13 (tot D) (fun _ => (-9 : Int32))) 13 0 (0 : Int32)) 14 0 (0 : Int32) = S0 at f0 hA0 ⊢
  obtain ⟨t, t1, t2, t3⟩ := iter_wh (it := fun q : St × Int32 × Int32 => i_X7_findFar_44 q.1 q.2.1 q.2.2) (fun q => ∃ k, q.2.2 = nI k ∧ q.2.1 = nI (bst D (full D) k).2.2 ∧ k ≤ tot D ∧ AM D q.1 (bst D (full D) k) ∧ ∀ a, a ≠ 13 → a ≠ 14 → q.1 a = S a) (fun t => (∀ x, x < tot D → t.1 13 x = (BF D (full D)).1 x) ∧ ∀ a, a ≠ 13 → a ≠ 14 → t.1 a = S a) (fun q => tot D - ix q.2.2) (by
    intro q hq
    obtain ⟨S1, x2, x⟩ := q
    obtain ⟨k, e, e2, hk, hA1, hf⟩ := hq
    have e : x = nI k := e
    have e2 : x2 = nI (bst D (full D) k).2.2 := e2
    subst e
    subst e2
    have hA1 : AM D S1 (bst D (full D) k) := hA1
    have hf : ∀ a, a ≠ 13 → a ≠ 14 → S1 a = S a := hf
    obtain ⟨b1, b2⟩ := bst_all g (full D) k
    have hle := b1.le
    by_cases hc : (bst D (full D) k).2.2 ≤ k
    · right
      refine ⟨(S1, nI (bst D (full D) k).2.2, nI k), ?_, ?_, hf⟩
      · show i_X7_findFar_44 S1 (nI (bst D (full D) k).2.2) (nI k) = _
        unfold i_X7_findFar_44
        rw [if_pos (by rw [nle (by omega) (by omega)]; exact hc)]
      · rw [← BF_of hc hk]
        exact hA1.1
    · left
      have hX : MH S1 D := h.fr (by rw [hf 0 (by decide) (by decide)]) (by rw [hf 0 (by decide) (by decide)]) (fun a ha => hf a (by omega) (by omega))
      obtain ⟨t, t1, t2, t3, t4⟩ := M_farIn hX g b1 hA1 (show k < (bst D (full D) k).2.2 by omega)
      have eb : bst D (full D) (k + 1) = vst D (full D) ((bst D (full D) k).2.1 k) (ns D) (bst D (full D) k) := by
        show (if k < (bst D (full D) k).2.2 then vst D (full D) ((bst D (full D) k).2.1 k) (ns D) (bst D (full D) k) else bst D (full D) k) = _
        rw [if_pos (by omega)]
      refine ⟨(t.1, t.2.1, nI (k + 1)), ?_, ⟨k + 1, rfl, by rw [eb]; exact t3, by omega, by rw [eb]; exact t2, fun a ha hb => ?_⟩, ?_⟩
      · show i_X7_findFar_44 S1 (nI (bst D (full D) k).2.2) (nI k) = _
        unfold i_X7_findFar_44
        rw [if_neg (by rw [nle (by omega) (by omega)]; exact hc), t1, bd_s, nadd1]
      · show t.1 a = S a
        rw [t4 a ha hb, hf a ha hb]
      · show tot D - ix (nI (k + 1)) < tot D - ix (nI k)
        rw [ixn (by omega), ixn (by omega)]
        omega) (S0, (1 : Int32), (0 : Int32)) ⟨0, rfl, rfl, Nat.zero_le _, hA0, f0⟩ (by
    have := bigT
    show tot D - _ < BIG
    omega)
  rw [t1, bd_s]
  exact ⟨_, rfl, t2, t3⟩
/-! the invariant behind them -/
theorem Inv.reachTo {D : HD} {nw : Nat → Nat} {nr : Nat} {rs rl : Nat → Nat} {Sx Sm Sx' Sm' : St} (h : InvD D nw nr rs rl Sx Sm) (ex : ∀ a, a ≠ 3 → a ≠ 21 → a ≠ 29 → ¬ (16 ≤ a ∧ a < 21) → a ≠ 30 → a ≠ 31 → a ≠ 32 → Sx' a = Sx a) (em : ∀ a, a ≠ 13 → a ≠ 14 → Sm' a = Sm a) (hC : Cch D Sx') : InvD D nw nr rs rl Sx' Sm' := by
  obtain ⟨h1, h2, h3, h4, h5, h6, h7⟩ := h
  have ex' : ∀ a, a < 3 ∨ (3 < a ∧ a < 16) ∨ (21 < a ∧ a < 29) ∨ 32 < a → Sx' a = Sx a := fun a ha => ex a (by omega) (by omega) (by omega) (by omega) (by omega) (by omega) (by omega)
  have em' : ∀ a, a < 13 ∨ 14 < a → Sm' a = Sm a := fun a ha => em a (by omega) (by omega)
  exact ⟨h1.fr (fun a ha => ex' a (by omega)) (by rw [em' 0 (by decide)]) (by rw [em' 0 (by decide)]) (fun a ha => em' a (by omega)), h2.fr (ex' 23 (by decide)) (em' 5 (by decide)), h3.fr (ex' 27 (by decide)) (em' 9 (by decide)) (by rw [em' 0 (by decide)]), h4.fr (by rw [ex' 0 (by decide)]) (by rw [ex' 0 (by decide)]) (by rw [em' 0 (by decide)]) (by rw [em' 0 (by decide)]), h5.fr (by rw [ex' 4 (by decide)]) (fun a ha => ex' a (by omega)) (by rw [em' 0 (by decide)]) (fun a ha => em' a (by omega)), h6.fr (fun a h8 h16 => ex' a (by omega)) (fun a ha => em' a (by omega)), hC⟩
theorem all_of : ∀ n, n ≤ 5 → shl32 (1 : Int32) (nI n) - 1 = nI (2 ^ n - 1) := by decide +kernel
theorem X_all {S : St} {D : HD} (h : XH S D) (g : GH D) : f_X1_allSwitches S = some (nI (full D)) := by
  unfold f_X1_allSwitches
  rw [h.2.1, all_of _ g.2.1]
  rfl
/-! presses that change nothing -/
def lst (f : Nat → Int32) : Nat → Int32
  | 0 => -9
  | n + 1 => if lst f n = -9 then f n + 1 else if lst f n ≤ f n + 1 then lst f n else f n + 1
theorem sim_idle : Sim_idle Inv := by
  intro Sx Sm h
  obtain ⟨D, nw, nr, rs, rl, hI⟩ := id h
  obtain ⟨h1, h2, h3, h4, h5, h6, h7⟩ := id hI
  obtain ⟨g, hx, hm, hg⟩ := id h1
  have hn5 := g.1
  have hs5 := g.2.1
  have ht := tot_le g
  have htp := tot_pos g
  unfold f_X6_idle f_X7_idle f_X1_isMissing
  rw [hx.1, hm.1]
  by_cases c3 : nl D = 0
  · rw [c3, if_pos (show nI 0 = (0 : Int32) from rfl), if_pos (show nI 0 = (0 : Int32) from rfl), bd_s, if_neg (by decide)]
    exact ⟨_, Sx, Sm, rfl, rfl, h⟩
  have c3' : ¬ nI (nl D) = (0 : Int32) := nI_ne0 (by omega) (by omega)
  rw [if_neg c3', if_neg c3', bd_s, if_pos rfl]
  obtain ⟨X1, x1, x2, x3, x4, x5, x6⟩ := X_spread hx g h7 (full_lt g)
  obtain ⟨M1, m1, m2, m3⟩ := M_findFar hm g
  have hx1 : XH X1 D := hx.fr (fun a ha => x6 a (by omega) (by omega) (by omega) (by omega) (by omega) (by omega))
  have hm1 : MH M1 D := hm.fr (by rw [m3 0 (by decide) (by decide)]) (by rw [m3 0 (by decide) (by decide)]) (fun a ha => m3 a (by omega) (by omega))
  have hF : ∀ s, s < ns D → (BF D (full D)).1 (bkn D s 0) ≠ -9 := fun s hs => BF_bk g (by rw [(BF_BI g (full D)).2.2.2.2.1]; decide) hs (full_bit hs)
  unfold f_X2_pressesForNothing
  rw [X_all hx g, bd_s, x1, bd_s, show f_X2_splitUp X1 (0 : Int32) = _ from X_split hx1 g (x := 0) (by decide), bd_s, m1, bd_s]
  obtain ⟨X2, hX2⟩ : ∃ X2, X2 = fill X1 30 (nl D) (fun l => nI (dg D 0 l)) := ⟨_, rfl⟩
  rw [← hX2]
  have f2 : ∀ a, a ≠ 30 → X2 a = X1 a := fun a ha => by rw [hX2, fill_ne _ _ _ _ ha]
  have hx2 : XH X2 D := hx1.fr (fun a ha => f2 a (by omega))
  have hw2 : WS X2 D := ⟨fun l hl => by rw [f2 29 (by decide)]; exact x5.1 l hl, fun s hs l hl => by rw [f2 (16 + s) (by omega)]; exact x5.2 s hs l hl⟩
  have hd2 : ∀ l, l < nl D → X2 30 l = nI (dg D 0 l) := fun l hl => by rw [hX2, fill_lo hl]
  have h31 : ∀ x, x < tot D → X2 31 x = (BF D (full D)).1 x := fun x hx => by rw [f2 31 (by decide)]; exact x4 x hx
  rw [iter_to (fun n => (lst (fun s => (BF D (full D)).1 (bkn D s 0)) n, nI n)) (ns D) (t := (lst (fun s => (BF D (full D)).1 (bkn D s 0)) (ns D), nI (ns D))) (by rfl) (by
    intro n hn
    show i_X2_pressesForNothing_20 X2 (lst (fun s => (BF D (full D)).1 (bkn D s 0)) n) (nI n) = _
    unfold i_X2_pressesForNothing_20
    have hb := bkn_lt g n 0
    rw [hx2.2.1, if_neg (by rw [nle (by omega) (by omega)]; omega), X_numDn hx2 g hw2 hn hd2, bd_s, X_fewestTo (by omega), bd_s, h31 _ hb, if_neg (hF n hn), nadd1]
    show _ = some (Sum.inl (if lst (fun s => (BF D (full D)).1 (bkn D s 0)) n = -9 then (BF D (full D)).1 (bkn D n 0) + 1 else if lst (fun s => (BF D (full D)).1 (bkn D s 0)) n ≤ (BF D (full D)).1 (bkn D n 0) + 1 then lst (fun s => (BF D (full D)).1 (bkn D s 0)) n else (BF D (full D)).1 (bkn D n 0) + 1, nI (n + 1)))
    split
    · rfl
    · split <;> rfl) (by
    show i_X2_pressesForNothing_20 X2 (lst (fun s => (BF D (full D)).1 (bkn D s 0)) (ns D)) (nI (ns D)) = _
    unfold i_X2_pressesForNothing_20
    rw [hx2.2.1, if_pos (by rw [nle (by omega) (by omega)]; omega)]) (by have := bigN; omega), bd_s]
  rw [iter_to (fun n => (lst (fun s => (BF D (full D)).1 (bkn D s 0)) n, nI n)) (ns D) (t := (lst (fun s => (BF D (full D)).1 (bkn D s 0)) (ns D), nI (ns D))) (by rfl) (by
    intro n hn
    show i_X7_idle_19 M1 (lst (fun s => (BF D (full D)).1 (bkn D s 0)) n) (nI n) = _
    unfold i_X7_idle_19
    have hb := bkn_lt g n 0
    rw [hm1.2.1, if_neg (by rw [nle (by omega) (by omega)]; omega), show f_X7_movedBy M1 (0 : Int32) (nI n) true = _ from M_moved hm1 g hn (x := 0) (by decide) true, bd_s, if_pos rfl, ck_t (okn (by omega) (by decide)), ixn (j := bkn D n 0) (by omega), m2 _ hb, nadd1]
    show _ = some (Sum.inl (if lst (fun s => (BF D (full D)).1 (bkn D s 0)) n = -9 then (BF D (full D)).1 (bkn D n 0) + 1 else if lst (fun s => (BF D (full D)).1 (bkn D s 0)) n ≤ (BF D (full D)).1 (bkn D n 0) + 1 then lst (fun s => (BF D (full D)).1 (bkn D s 0)) n else (BF D (full D)).1 (bkn D n 0) + 1, nI (n + 1)))
    split
    · rfl
    · split <;> rfl) (by
    show i_X7_idle_19 M1 (lst (fun s => (BF D (full D)).1 (bkn D s 0)) (ns D)) (nI (ns D)) = _
    unfold i_X7_idle_19
    rw [hm1.2.1, if_pos (by rw [nle (by omega) (by omega)]; omega)]) (by have := bigN; omega), bd_s]
  refine ⟨_, X2, M1, rfl, rfl, D, nw, nr, rs, rl, Inv.reachTo hI (fun a a1 a2 a3 a4 a5 a6 a7 => by rw [f2 a a5, x6 a a1 a3 a4 a5 a6 a7]) m3 ?_⟩
  exact Or.inr ⟨full D, full_lt g, by rw [f2 3 (by decide)]; exact x2, by rw [f2 3 (by decide)]; exact x3, h31, hw2.1, hw2.2⟩
