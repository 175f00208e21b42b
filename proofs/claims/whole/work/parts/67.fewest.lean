/-! the first that is so -/
def fnd (p : Nat → Bool) : Nat → Nat → Nat
  | 0, s => s
  | n + 1, s => if p s then s else fnd p n (s + 1)
theorem fnd_sp (p : Nat → Bool) : ∀ n s, (∃ j, s ≤ j ∧ j < s + n ∧ p j = true) → p (fnd p n s) = true ∧ s ≤ fnd p n s ∧ fnd p n s < s + n ∧ ∀ j, s ≤ j → j < fnd p n s → p j = false
  | 0, s, ⟨j, h1, h2, _⟩ => absurd h1 (by omega)
  | n + 1, s, ⟨j, h1, h2, h3⟩ => by
    show p (if p s then s else fnd p n (s + 1)) = true ∧ s ≤ (if p s then s else fnd p n (s + 1)) ∧ (if p s then s else fnd p n (s + 1)) < s + (n + 1) ∧ ∀ j, s ≤ j → j < (if p s then s else fnd p n (s + 1)) → p j = false
    by_cases e : p s = true
    · rw [if_pos e]
      exact ⟨e, Nat.le_refl _, by omega, fun j h1 h2 => absurd h1 (by omega)⟩
    · rw [if_neg e]
      have hj : j ≠ s := fun q => e (by rw [← q]; exact h3)
      obtain ⟨k1, k2, k3, k4⟩ := fnd_sp p n (s + 1) ⟨j, by omega, by omega, h3⟩
      refine ⟨k1, by omega, by omega, fun i i1 i2 => ?_⟩
      by_cases q : i = s
      · rw [q]; exact bf e
      · exact k4 i (by omega) i2
/-- the switch that is taken back first, and the rows of them -/
def tk (D : HD) (F : Nat → Int32) (x : Nat) : Nat := fnd (fun s => F (bkn D s x) == F x - 1) (ns D) 0
def chn (D : HD) (F : Nat → Int32) (x : Nat) : Nat → Nat
  | 0 => x
  | t + 1 => bkn D (tk D F (chn D F x t)) (chn D F x t)
theorem nsub1 {d : Nat} (h : 1 ≤ d) : nI d - (1 : Int32) = nI (d - 1) := pk_sub (a := d) (b := 1) h
theorem tk_sp {D : HD} (g : GH D) {x e : Nat} (hx : (BF D (full D)).1 x = nI (e + 1)) (he : e < 4000) : tk D (BF D (full D)).1 x < ns D ∧ (BF D (full D)).1 (bkn D (tk D (BF D (full D)).1 x) x) = nI e ∧ ∀ s, s < tk D (BF D (full D)).1 x → (BF D (full D)).1 (bkn D s x) ≠ nI e := by
  have h1 := BF_BI g (full D)
  have ht := tot_le g
  have hl := h1.le
  have hx9 : (BF D (full D)).1 x ≠ -9 := by rw [hx]; exact m9 (by omega)
  have hs1 : (BF D (full D)).1 x - 1 = nI e := by rw [hx, nsub1 (by omega)]; rfl
  have hex : ∃ j, 0 ≤ j ∧ j < 0 + ns D ∧ ((BF D (full D)).1 (bkn D j x) == (BF D (full D)).1 x - 1) = true := by
    rcases h1.2.2.2.2.2.1 x hx9 with q | ⟨s, p, d, a1, a2, a3, a4, a5, a6, a7⟩
    · rw [q, h1.2.2.2.2.1, n0, neq (by decide) (by omega)] at hx
      omega
    · rw [hx, neq (by omega) (by omega)] at a7
      refine ⟨s, Nat.zero_le _, by omega, ?_⟩
      rw [hs1, a4, bk_mv g s a3, a5, show d = e by omega]
      exact beq_self_eq_true _
  obtain ⟨k1, k2, k3, k4⟩ := fnd_sp (fun s => (BF D (full D)).1 (bkn D s x) == (BF D (full D)).1 x - 1) (ns D) 0 hex
  refine ⟨by show fnd _ _ _ < _; omega, ?_, fun s hs => ?_⟩
  · exact (eq_of_beq k1).trans hs1
  · have := ne_of_beq_false (k4 s (Nat.zero_le _) hs)
    rw [hs1] at this
    exact this
theorem chn_sp {D : HD} (g : GH D) {x d : Nat} (hxt : x < tot D) (hx : (BF D (full D)).1 x = nI d) (hd : d < 4000) : ∀ t, t ≤ d → chn D (BF D (full D)).1 x t < tot D ∧ (BF D (full D)).1 (chn D (BF D (full D)).1 x t) = nI (d - t)
  | 0, _ => ⟨hxt, hx⟩
  | t + 1, h => by
    obtain ⟨k1, k2⟩ := chn_sp g hxt hx hd t (by omega)
    have k3 := tk_sp g (x := chn D (BF D (full D)).1 x t) (e := d - (t + 1)) (by rw [k2, show d - t = d - (t + 1) + 1 by omega]) (by omega)
    exact ⟨bkn_lt g _ _, k3.2.1⟩
/-! the class's -/
theorem X_first {S : St} {D : HD} (h : XH S D) (g : GH D) (hw : WS S D) {x e : Nat} (hF : ∀ y, y < tot D → S 31 y = (BF D (full D)).1 y) (hd : ∀ l, l < nl D → S 30 l = nI (dg D x l)) (hx : (BF D (full D)).1 x = nI (e + 1)) (he : e < 4000) : f_X2_firstThatLeaves S (nI e) = some (nI (tk D (BF D (full D)).1 x)) := by
  have hs5 := g.2.1
  have ht := tot_le g
  obtain ⟨k1, k2, k3⟩ := tk_sp g hx he
  have step : ∀ n, n < ns D → i_X2_firstThatLeaves_2 S (nI e) (nI n) = if (BF D (full D)).1 (bkn D n x) = nI e then some (.inr (.inr (nI n))) else some (.inl (nI (n + 1))) := by
    intro n hn
    have hb := bkn_lt g n x
    unfold i_X2_firstThatLeaves_2
    rw [h.2.1, if_neg (by rw [nle (by omega) (by omega)]; omega), X_numDn h g hw hn hd, bd_s, X_fewestTo (by omega), bd_s, hF _ hb, nadd1]
  unfold f_X2_firstThatLeaves
  rw [iter_to (fun i => nI i) (tk D (BF D (full D)).1 x) (t := .inr (nI (tk D (BF D (full D)).1 x))) (by rfl) (by
    intro i hi
    rw [step i (by omega), if_neg (k3 i hi)]) (by
    rw [step _ k1, if_pos k2]) (by have := bigN; omega), bd_s]
  rfl
theorem RX.ws {D : HD} {S S' : St} (h : RX D S S') : WS S' D := h.2.2.2.1
theorem RX.split {D : HD} {S S' : St} (g : GH D) (h : RX D S S') (f : Nat → Int32) : RX D S (fill S' 30 (nl D) f) := by
  have hs5 := g.2.1
  have e : ∀ a, a ≠ 30 → fill S' 30 (nl D) f a = S' a := fun a ha => fill_ne _ _ _ _ ha
  obtain ⟨h1, h2, h3, h4, h5⟩ := h
  exact ⟨by rw [e 3 (by decide)]; exact h1, by rw [e 3 (by decide)]; exact h2, by rw [e 31 (by decide)]; exact h3, ⟨by rw [e 29 (by decide)]; exact h4.1, fun s hs => by rw [e (16 + s) (by omega)]; exact h4.2 s hs⟩, fun a a1 a2 a3 a4 a5 a6 => by rw [e a a4]; exact h5 a a1 a2 a3 a4 a5 a6⟩
theorem X_placeStep {S S1 : St} {D : HD} (h : XH S D) (g : GH D) (hR : RX D S S1) {x d k t : Nat} (hxt : x < tot D) (hx : (BF D (full D)).1 x = nI d) (hd : d < 4000) (hk : k ≤ 99) (ht : t < d) (htk : t ≤ k) (x6 : Int32) : ∃ S2, i_X2_placeInRow_32 S1 (nI k) (nI d) (nI (chn D (BF D (full D)).1 x t)) x6 (nI t) = some (.inl (S2, nI (chn D (BF D (full D)).1 x (t + 1)), nI (tk D (BF D (full D)).1 (chn D (BF D (full D)).1 x t)), nI (t + 1))) ∧ RX D S S2 := by
  have hs5 := g.2.1
  have htt := tot_le g
  obtain ⟨k1, k2⟩ := chn_sp g hxt hx hd t (by omega)
  have k2' : (BF D (full D)).1 (chn D (BF D (full D)).1 x t) = nI (d - t - 1 + 1) := by rw [k2, show d - t - 1 + 1 = d - t by omega]
  have hx1 := hR.xh h
  have hR2 := hR.split g (fun l => nI (dg D (chn D (BF D (full D)).1 x t) l))
  have hd2 : ∀ l, l < nl D → fill S1 30 (nl D) (fun l => nI (dg D (chn D (BF D (full D)).1 x t) l)) 30 l = nI (dg D (chn D (BF D (full D)).1 x t) l) := fun l hl => fill_lo hl
  refine ⟨_, ?_, hR2⟩
  have k3 := tk_sp g k2' (by omega)
  unfold i_X2_placeInRow_32
  rw [if_neg (show ¬ nI k < nI t by rw [nlt (by omega) (by omega)]; omega), if_pos (show nI t < nI d by rw [nlt (by omega) (by omega)]; omega), X_split hx1 g (by omega), bd_s, pk_sub (by omega), nsub1 (by omega), X_first (hR2.xh h) g hR2.ws hR2.2.2.1 hd2 k2' (by omega), bd_s, if_neg (m9 (by omega)), X_numDn (hR2.xh h) g hR2.ws k3.1 hd2, bd_s, nadd1]
  rfl
theorem X_place {S : St} {D : HD} (h : XH S D) (g : GH D) (hC : Cch D S) {r : Nat → Nat} (hr : ∀ l, l < nl D → S 21 l = nI (r l)) (hb : rok D r) {k : Nat} (hk : k ≤ 99) : ∃ S', f_X2_placeInRow S 21 (nI k) = some (if (BF D (full D)).1 (enc D r (nl D)) = -9 then -9 else if nI k < (BF D (full D)).1 (enc D r (nl D)) then nI (tk D (BF D (full D)).1 (chn D (BF D (full D)).1 (enc D r (nl D)) k)) else -9, S') ∧ RX D S S' := by
  have htt := tot_le g
  have ha : arX 21 := by decide
  have hxt : enc D r (nl D) < tot D := enc_lt g hb (Nat.le_refl _)
  obtain ⟨X1, x1, x2, x3, x4, x5, x6⟩ := X_spread h g hC (full_lt g)
  have hR : RX D S X1 := ⟨x2, x3, x4, x5, x6⟩
  have en := X_numberOf (hR.xh h) g ha (by decide) (r := r) (fun l hl => by rw [x6 21 (by decide) (by decide) (by decide) (by decide) (by decide) (by decide)]; exact hr l hl)
  generalize enc D r (nl D) = x at *
  unfold f_X2_placeInRow
  rw [ck_t ha, X_all h g, bd_s, x1, bd_s, en, bd_s, X_fewestTo (by omega), bd_s, x4 _ hxt]
  by_cases e9 : (BF D (full D)).1 x = -9
  · rw [if_pos e9]
    refine ⟨X1, ?_, hR⟩
    rw [iter_to (it := fun q : St × Int32 × Int32 × Int32 => i_X2_placeInRow_32 q.1 (nI k) ((BF D (full D)).1 x) q.2.1 q.2.2.1 q.2.2.2) (fun i => (X1, nI x, (-9 : Int32), nI i)) 0 (t := .inr (-9, X1)) (by rfl) (fun i hi => absurd hi (Nat.not_lt_zero i)) (by
      show i_X2_placeInRow_32 X1 (nI k) ((BF D (full D)).1 x) (nI x) (-9) (nI 0) = _
      unfold i_X2_placeInRow_32
      rw [if_neg (show ¬ nI k < nI 0 by rw [nlt (by omega) (by omega)]; omega), e9, if_neg (by decide)]) (by decide), bd_s]
    rfl
  rw [if_neg e9]
  obtain ⟨d, hd, hxd⟩ := (BF_BI g (full D)).2.2.2.2.2.2 x e9
  have hle := (BF_BI g (full D)).le
  by_cases hkd : k < d
  · obtain ⟨t, t1, t2, t3⟩ := iter_rel (it := fun q : St × Int32 × Int32 × Int32 => i_X2_placeInRow_32 q.1 (nI k) ((BF D (full D)).1 x) q.2.1 q.2.2.1 q.2.2.2) (fun t q => q.2.1 = nI (chn D (BF D (full D)).1 x t) ∧ q.2.2.2 = nI t ∧ (0 < t → q.2.2.1 = nI (tk D (BF D (full D)).1 (chn D (BF D (full D)).1 x (t - 1)))) ∧ RX D S q.1) (fun u => ∃ q, u = .inl q ∧ q.2.2.1 = nI (tk D (BF D (full D)).1 (chn D (BF D (full D)).1 x k)) ∧ RX D S q.1) (k + 1) (by
      intro t q ht hq
      obtain ⟨S1, y, z, w⟩ := q
      obtain ⟨e1, e2, e3, hR1⟩ := hq
      have e1 : y = nI (chn D (BF D (full D)).1 x t) := e1
      have e2 : w = nI t := e2
      subst e1
      subst e2
      obtain ⟨S2, s1, s2⟩ := X_placeStep h g hR1 hxt hxd (by omega) hk (show t < d by omega) (by omega) z
      refine ⟨(S2, nI (chn D (BF D (full D)).1 x (t + 1)), nI (tk D (BF D (full D)).1 (chn D (BF D (full D)).1 x t)), nI (t + 1)), ?_, rfl, rfl, fun _ => rfl, s2⟩
      show i_X2_placeInRow_32 S1 (nI k) ((BF D (full D)).1 x) (nI (chn D (BF D (full D)).1 x t)) z (nI t) = _
      rw [hxd, s1]) (by
      intro q hq
      obtain ⟨S1, y, z, w⟩ := q
      obtain ⟨e1, e2, e3, hR1⟩ := hq
      have e2 : w = nI (k + 1) := e2
      subst e2
      refine ⟨.inl (S1, y, z, nI (k + 1)), ?_, _, rfl, e3 (by omega), hR1⟩
      show i_X2_placeInRow_32 S1 (nI k) ((BF D (full D)).1 x) y z (nI (k + 1)) = _
      unfold i_X2_placeInRow_32
      rw [if_pos (show nI k < nI (k + 1) by rw [nlt (by omega) (by omega)]; omega)]) (X1, nI x, (-9 : Int32), (0 : Int32)) ⟨rfl, rfl, fun q => absurd q (Nat.lt_irrefl 0), hR⟩ (by have := bigN; omega)
    obtain ⟨t4, t5, t6⟩ := t3
    refine ⟨t2.1, ?_, t6⟩
    rw [t1, bd_s, t4, sm_i, t5, hxd, if_pos (show nI k < nI d by rw [nlt (by omega) (by omega)]; exact hkd)]
  · obtain ⟨t, t1, t2, t3, t4⟩ := iter_rel (it := fun q : St × Int32 × Int32 × Int32 => i_X2_placeInRow_32 q.1 (nI k) ((BF D (full D)).1 x) q.2.1 q.2.2.1 q.2.2.2) (fun t q => q.2.1 = nI (chn D (BF D (full D)).1 x t) ∧ q.2.2.2 = nI t ∧ RX D S q.1) (fun u => ∃ S', u = .inr (-9, S') ∧ RX D S S') d (by
      intro t q ht hq
      obtain ⟨S1, y, z, w⟩ := q
      obtain ⟨e1, e2, hR1⟩ := hq
      have e1 : y = nI (chn D (BF D (full D)).1 x t) := e1
      have e2 : w = nI t := e2
      subst e1
      subst e2
      obtain ⟨S2, s1, s2⟩ := X_placeStep h g hR1 hxt hxd (by omega) hk (show t < d by omega) (by omega) z
      refine ⟨(S2, nI (chn D (BF D (full D)).1 x (t + 1)), nI (tk D (BF D (full D)).1 (chn D (BF D (full D)).1 x t)), nI (t + 1)), ?_, rfl, rfl, s2⟩
      show i_X2_placeInRow_32 S1 (nI k) ((BF D (full D)).1 x) (nI (chn D (BF D (full D)).1 x t)) z (nI t) = _
      rw [hxd, s1]) (by
      intro q hq
      obtain ⟨S1, y, z, w⟩ := q
      obtain ⟨e1, e2, hR1⟩ := hq
      have e2 : w = nI d := e2
      subst e2
      refine ⟨.inr (-9, S1), ?_, S1, rfl, hR1⟩
      show i_X2_placeInRow_32 S1 (nI k) ((BF D (full D)).1 x) y z (nI d) = _
      unfold i_X2_placeInRow_32
      rw [hxd, if_neg (show ¬ nI k < nI d by rw [nlt (by omega) (by omega)]; omega), if_neg (show ¬ nI d < nI d by rw [nlt (by omega) (by omega)]; omega)]) (X1, nI x, (-9 : Int32), (0 : Int32)) ⟨rfl, rfl, hR⟩ (by have := bigN; omega)
    refine ⟨t2, ?_, t4⟩
    rw [t1, bd_s, t3, sm_o, hxd, if_neg (show ¬ nI k < nI d by rw [nlt (by omega) (by omega)]; exact hkd)]
/-! the reference's -/
theorem M_fewestOf {S : St} {D : HD} (h : MH S D) (g : GH D) (hF : ∀ y, y < tot D → S 13 y = (BF D (full D)).1 y) {x k : Nat} (hxt : x < tot D) (hk : k ≤ 99) : f_X7_fewestOf S (nI x) (nI k) = some (if (BF D (full D)).1 x = -9 then -9 else if nI k < (BF D (full D)).1 x then nI (tk D (BF D (full D)).1 (chn D (BF D (full D)).1 x k)) else -9) := by
  have htt := tot_le g
  have hs5 := g.2.1
  unfold f_X7_fewestOf
  rw [if_neg (nneg_ne (by omega) (by decide)), ck_t (okn (by omega) (by decide)), ck_t (okn (by omega) (by decide)), ixn (by omega), hF x hxt]
  by_cases e9 : (BF D (full D)).1 x = -9
  · rw [if_pos e9, if_pos e9]
  rw [if_neg e9, if_neg e9]
  obtain ⟨d, hd, hxd⟩ := (BF_BI g (full D)).2.2.2.2.2.2 x e9
  have hle := (BF_BI g (full D)).le
  rw [hxd]
  by_cases hkd : k < d
  · have hq : nI k < nI d := by rw [nlt (by omega) (by omega)]; exact hkd
    rw [if_pos hq, if_pos hq, iter_to (fun t => (nI (chn D (BF D (full D)).1 x t), (if t = 0 then 0 else nI (tk D (BF D (full D)).1 (chn D (BF D (full D)).1 x (t - 1)))), nI t)) (k + 1) (t := (nI (chn D (BF D (full D)).1 x (k + 1)), nI (tk D (BF D (full D)).1 (chn D (BF D (full D)).1 x k)), nI (k + 1))) (by rfl) (by
      intro t ht
      obtain ⟨k1, k2⟩ := chn_sp g hxt hxd (by omega) t (by omega)
      have k2' : (BF D (full D)).1 (chn D (BF D (full D)).1 x t) = nI (d - t - 1 + 1) := by rw [k2, show d - t - 1 + 1 = d - t by omega]
      have k3 := tk_sp g k2' (by omega)
      have step : ∀ n, n < ns D → i_X7_fewestOf_53 S (nI k) (nI (chn D (BF D (full D)).1 x t)) (nI t) (nI n) = if (BF D (full D)).1 (bkn D n (chn D (BF D (full D)).1 x t)) = nI (d - t - 1) then some (.inr (nI n)) else some (.inl (nI (n + 1))) := by
        intro n hn
        have hb := bkn_lt g n (chn D (BF D (full D)).1 x t)
        unfold i_X7_fewestOf_53
        rw [M_moved h g hn (by omega) true, bd_s, if_pos rfl, ck_t (okn (by omega) (by decide)), ck_t (okn (by omega) (by decide)), ixn (j := bkn D n (chn D (BF D (full D)).1 x t)) (by omega), ixn (j := chn D (BF D (full D)).1 x t) (by omega), hF _ hb, hF _ k1, k2, nsub1 (by omega), nadd1]
      show i_X7_fewestOf_44 S (nI k) (nI (chn D (BF D (full D)).1 x t)) (if t = 0 then 0 else nI (tk D (BF D (full D)).1 (chn D (BF D (full D)).1 x (t - 1)))) (nI t) = _
      unfold i_X7_fewestOf_44
      rw [if_neg (show ¬ nI k < nI t by rw [nlt (by omega) (by omega)]; omega), iter_to (fun i => nI i) (tk D (BF D (full D)).1 (chn D (BF D (full D)).1 x t)) (t := nI (tk D (BF D (full D)).1 (chn D (BF D (full D)).1 x t))) (by rfl) (by
        intro i hi
        rw [step i (by omega), if_neg (k3.2.2 i hi)]) (by
        rw [step _ k3.1, if_pos k3.2.1]) (by have := bigN; omega), bd_s, M_moved h g k3.1 (by omega) true, bd_s, if_pos rfl, nadd1]
      rfl) (by
      show i_X7_fewestOf_44 S (nI k) (nI (chn D (BF D (full D)).1 x (k + 1))) (if k + 1 = 0 then 0 else nI (tk D (BF D (full D)).1 (chn D (BF D (full D)).1 x (k + 1 - 1)))) (nI (k + 1)) = _
      unfold i_X7_fewestOf_44
      rw [if_pos (show nI k < nI (k + 1) by rw [nlt (by omega) (by omega)]; omega)]
      rfl) (by have := bigN; omega), bd_s]
  · have hq : ¬ nI k < nI d := by rw [nlt (by omega) (by omega)]; exact hkd
    rw [if_neg hq, if_neg hq]
