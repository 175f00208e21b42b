/-! a row of shades as a number; presses for it -/
theorem X_numberOf {S : St} {D : HD} (h : XH S D) (g : GH D) {k : Nat} (hk : arX k) (hk2 : lenX k = 5) {r : Nat → Nat} (hr : ∀ l, l < nl D → S k l = nI (r l)) : f_X2_numberOf S k = some (nI (enc D r (nl D))) := by
  have h5 := g.1
  unfold f_X2_numberOf
  rw [ck_t hk, iter_to (fun i => (nI (enc D r i), nI (wt D i), nI i)) (nl D) (t := (nI (enc D r (nl D)), nI (wt D (nl D)), nI (nl D))) (by rfl), bd_s]
  · intro i hi
    show i_X2_numberOf_8 S k (nI (enc D r i)) (nI (wt D i)) (nI i) = _
    unfold i_X2_numberOf_8
    rw [h.1, if_neg (by rw [nle (by omega) (by omega)]; omega), hk2, ck_t (okn (by omega) (by decide)), ck_t (okn (by omega) (by decide)), ixn (by omega), hr i hi, h.2.2.1 i hi, pk_mul, pk_mul, nI_add, nadd1]
    rfl
  · show i_X2_numberOf_8 S k (nI (enc D r (nl D))) (nI (wt D (nl D))) (nI (nl D)) = _
    unfold i_X2_numberOf_8
    rw [h.1, if_pos (by rw [nle (by omega) (by omega)]; omega)]
  · have := bigN; omega
/-- behind a spread over all switches -/
def RX (D : HD) (S S' : St) : Prop := S' 3 6 = nI (full D) ∧ S' 3 5 = nI (BF D (full D)).2.2 ∧ (∀ x, x < tot D → S' 31 x = (BF D (full D)).1 x) ∧ WS S' D ∧ ∀ a, a ≠ 3 → a ≠ 29 → ¬ (16 ≤ a ∧ a < 21) → a ≠ 30 → a ≠ 31 → a ≠ 32 → S' a = S a
theorem RX.cch {D : HD} {S S' : St} (g : GH D) (h : RX D S S') : Cch D S' := Or.inr ⟨full D, full_lt g, h.1, h.2.1, h.2.2.1, h.2.2.2.1.1, h.2.2.2.1.2⟩
theorem RX.xh {D : HD} {S S' : St} (h : RX D S S') (hx : XH S D) : XH S' D := hx.fr (fun a ha => h.2.2.2.2 a (by omega) (by omega) (by omega) (by omega) (by omega) (by omega))
theorem X_pressesFor {S : St} {D : HD} (h : XH S D) (g : GH D) (hC : Cch D S) {r : Nat → Nat} (hr : ∀ l, l < nl D → S 21 l = nI (r l)) (hb : rok D r) : ∃ S', f_X2_pressesFor S 21 = some ((BF D (full D)).1 (enc D r (nl D)), S') ∧ RX D S S' := by
  have ht := tot_le g
  obtain ⟨X1, x1, x2, x3, x4, x5, x6⟩ := X_spread h g hC (full_lt g)
  have hR : RX D S X1 := ⟨x2, x3, x4, x5, x6⟩
  have ha : arX 21 := by decide
  have he : enc D r (nl D) < tot D := enc_lt g hb (Nat.le_refl _)
  refine ⟨X1, ?_, hR⟩
  unfold f_X2_pressesFor
  rw [ck_t ha, X_all h g, bd_s, x1, bd_s, X_numberOf (hR.xh h) g ha (by decide) (r := r) (fun l hl => by rw [x6 21 (by decide) (by decide) (by decide) (by decide) (by decide) (by decide)]; exact hr l hl), bd_s, X_fewestTo (by omega), bd_s, x4 _ he]
theorem enc_unit {D : HD} {l : Nat} : ∀ n, enc D (fun o => if o = l then 1 else 0) n = if l < n then wt D l else 0
  | 0 => rfl
  | n + 1 => by
    show enc D (fun o => if o = l then 1 else 0) n + (if n = l then 1 else 0) * wt D n = _
    rw [enc_unit n]
    by_cases e : n = l
    · rw [if_neg (by omega), if_pos e, if_pos (by omega), e, Nat.one_mul, Nat.zero_add]
    · rw [if_neg e, Nat.zero_mul, Nat.add_zero]
      by_cases q : l < n
      · rw [if_pos q, if_pos (by omega)]
      · rw [if_neg q, if_neg (by omega)]
theorem sim_alone : Sim_alone Inv := by
  intro Sx Sm a0 h
  obtain ⟨D, nw, nr, rs, rl, hI⟩ := id h
  obtain ⟨h1, h2, h3, h4, h5, h6, h7⟩ := id hI
  obtain ⟨g, hx, hm, hg⟩ := id h1
  have hn5 := g.1
  have hs5 := g.2.1
  have ht := tot_le g
  have htp := tot_pos g
  unfold f_X6_alone f_X7_alone
  rcases nix2 a0 (n := nl D) (by omega) with ha | ⟨l, hl, rfl⟩
  · rw [X_lamp0 hx ha, M_lamp0 hm ha, bd_s, bd_s, if_neg (by decide), if_neg (by decide)]
    exact ⟨_, Sx, Sm, rfl, rfl, h⟩
  rw [X_lamp1 hx g hl, M_lamp1 hm g hl, bd_s, bd_s, if_pos rfl, if_pos rfl]
  obtain ⟨M1, m1, m2, m3⟩ := M_findFar hm g
  have hm1 : MH M1 D := hm.fr (by rw [m3 0 (by decide) (by decide)]) (by rw [m3 0 (by decide) (by decide)]) (fun a ha => m3 a (by omega) (by omega))
  obtain ⟨u, hu⟩ : ∃ u : Nat → Nat, u = fun o => if o = l then 1 else 0 := ⟨_, rfl⟩
  have hur : rok D u := fun o ho => by
    have := g.2.2.1 o ho
    rw [hu]
    show (if o = l then 1 else 0) < sh D o
    split <;> omega
  rw [iter_to (fun i => (fill Sx 21 i (fun o => nI (u o)), nI i)) (nl D) (t := (fill Sx 21 (nl D) (fun o => nI (u o)), nI (nl D))) (by rw [fill_0]; rfl) (by
    intro i hi
    show i_X6_alone_15 (fill Sx 21 i (fun o => nI (u o))) (nI l) (nI i) = _
    unfold i_X6_alone_15
    rw [fill_ne _ _ _ _ (show 1 ≠ 21 by decide), hx.1, if_neg (by rw [nle (by omega) (by omega)]; omega)]
    by_cases e : i = l
    · rw [if_pos (show nI i = nI l by rw [e]), ck_t (okn (by omega) (by decide)), ixn (by omega), fill_up' (by rw [hu]; show (1 : Int32) = nI (if i = l then 1 else 0); rw [if_pos e]; rfl), nadd1]
    · rw [if_neg (show ¬ nI i = nI l by rw [neq (by omega) (by omega)]; exact e), ck_t (okn (by omega) (by decide)), ixn (by omega), fill_up' (by rw [hu]; show (0 : Int32) = nI (if i = l then 1 else 0); rw [if_neg e]; rfl), nadd1]) (by
    show i_X6_alone_15 (fill Sx 21 (nl D) (fun o => nI (u o))) (nI l) (nI (nl D)) = _
    unfold i_X6_alone_15
    rw [fill_ne _ _ _ _ (show 1 ≠ 21 by decide), hx.1, if_pos (by rw [nle (by omega) (by omega)]; omega)]) (by have := bigN; omega), bd_s]
  have f1 : ∀ a, a ≠ 21 → fill Sx 21 (nl D) (fun o => nI (u o)) a = Sx a := fun a ha => fill_ne _ _ _ _ ha
  obtain ⟨X2, p1, p2⟩ := X_pressesFor (S := fill Sx 21 (nl D) (fun o => nI (u o))) (hx.fr (fun a ha => f1 a (by omega))) g (h7.fr (fun a ha => f1 a (by omega)) g) (r := u) (fun l hl => fill_lo hl) hur
  rw [p1, bd_s, m1, bd_s, iter_to (fun i => (nI (wt D i), nI i)) l (t := (nI (wt D l), nI l)) (by rfl) (by
    intro i hi
    show i_X7_alone_18 M1 (nI l) (nI (wt D i)) (nI i) = _
    unfold i_X7_alone_18
    rw [if_neg (by rw [nle (by omega) (by omega)]; omega), ck_t (okn (by omega) (by decide)), ixn (by omega), hm1.2.2.1 i (by omega), pk_mul, nadd1]
    rfl) (by
    show i_X7_alone_18 M1 (nI l) (nI (wt D l)) (nI l) = _
    unfold i_X7_alone_18
    rw [if_pos (by rw [nle (by omega) (by omega)]; omega)]) (by have := bigN; omega), bd_s]
  have he : enc D u (nl D) = wt D l := by rw [hu, enc_unit, if_pos hl]
  have hwl : wt D l < tot D := by rw [← he]; exact enc_lt g hur (Nat.le_refl _)
  show ∃ (r : Int32) (Sx' Sm' : St), some ((BF D (full D)).1 (enc D u (nl D)), X2) = some (r, Sx') ∧ (ck (okx (nI (wt D l)) 3125) <| some (M1 13 (ix (nI (wt D l))), M1)) = some (r, Sm') ∧ Inv Sx' Sm'
  rw [ck_t (okn (by omega) (by decide)), ixn (by omega), m2 _ hwl, he]
  exact ⟨_, X2, M1, rfl, rfl, D, nw, nr, rs, rl, Inv.reachTo hI (fun a a1 a2 a3 a4 a5 a6 a7 => by rw [p2.2.2.2.2 a a1 a3 a4 a5 a6 a7, f1 a a2]) m3 (p2.cch g)⟩
