/-! by how much a hall told is on -/
theorem M_onTo {S : St} {D : HD} (h : MH S D) (g : GH D) {f : Nat} (hf : f + nl D ≤ 240) {q nw : Nat → Nat} (hq : ∀ l, l < nl D → S 3 (f + l) = nI (q l) ∧ q l < sh D l) (hn : ∀ l, l < nl D → S 5 l = nI (nw l) ∧ nw l < sh D l) : f_X7_onTo S (nI f) = some (nI (enc D (fun l => (q l + 5 * sh D l - nw l) % sh D l) (nl D))) := by
  have h5 := g.1
  unfold f_X7_onTo
  rw [iter_to (fun i => (nI (wt D i), nI (enc D (fun l => (q l + 5 * sh D l - nw l) % sh D l) i), nI i)) (nl D) (t := (nI (wt D (nl D)), nI (enc D (fun l => (q l + 5 * sh D l - nw l) % sh D l) (nl D)), nI (nl D))) (by rfl), bd_s]
  · intro i hi
    have hsh := g.2.2.1 i hi
    have h1 := hq i hi
    have h2 := hn i hi
    show i_X7_onTo_7 S (nI f) (nI (wt D i)) (nI (enc D (fun l => (q l + 5 * sh D l - nw l) % sh D l) i)) (nI i) = _
    unfold i_X7_onTo_7
    rw [h.1, if_neg (by rw [nle (by omega) (by omega)]; omega), nI_add f i]
    simp only [ck_t (okn (j := f + i) (n := 240) (by omega) (by decide)), ck_t (okn (j := i) (n := 5) (by omega) (by decide)), ixn (j := i) (by omega), ixn (j := f + i) (by omega), h.2.2.1 i hi, h1.1, h2.1, ck_t (show ¬ nI (sh D i) = 0 from nI_ne0 (by omega) (by omega)), nI_add, nadd1, pk_mul]
    rw [pk_sub (by omega), show rem32 (nI (q i + sh D i - nw i)) (nI (sh D i)) = nI ((q i + sh D i - nw i) % sh D i) from pk_rem (by omega) (by omega) (by omega), pk_mul, nI_add, show (q i + sh D i - nw i) % sh D i = (q i + 5 * sh D i - nw i) % sh D i by rw [show q i + 5 * sh D i - nw i = q i + sh D i - nw i + sh D i * 4 by omega, Nat.add_mul_mod_self_left]]
    rfl
  · show i_X7_onTo_7 S (nI f) (nI (wt D (nl D))) (nI (enc D (fun l => (q l + 5 * sh D l - nw l) % sh D l) (nl D))) (nI (nl D)) = _
    unfold i_X7_onTo_7
    rw [h.1, if_pos (by rw [nle (by omega) (by omega)]; omega)]
  · have := bigN; omega
theorem fewest_core {D : HD} {nw : Nat → Nat} {nr : Nat} {rs rl : Nat → Nat} {X M : St} (hI : InvD D nw nr rs rl X M) {k z i : Nat} (hk : k < 4) (hz : z ≤ 60) (ez : X (8 + k) 2 = nI z) (hin : i + nl D ≤ z) (e5 : ∀ q, q < z → X (12 + k) q = M 3 (60 * k + q)) {a3 : Int32} (h3 : a3 = -1 ∨ ∃ n, n ≤ 99 ∧ a3 = nI n) :
    ∃ (r : Int32) (X' M' : St), (bd (iter (fun q : St × Int32 => i_X6_fewest_84 q.1 (nI i) a3 (8 + k) q.2) BIG (X, (0 : Int32))) fun u84 => sm u84 (fun q84 => if a3 = ((-1 : Int32)) then (bd (f_X2_pressesFor q84.1 21) fun r181 => some (r181.1, r181.2)) else (bd (f_X2_placeInRow q84.1 21 a3) fun r201 => some (r201.1, r201.2))) fun w84 => some w84) = some (r, X') ∧
    (bd (iter (fun q => i_X7_fewest_81 M a3 (nI (60 * k + i)) q) BIG ((0 : Int32))) fun u81 => sm u81 (fun q81 => bd (f_X7_findFar M) fun r126 => bd (f_X7_onTo r126 (nI (60 * k + i))) fun r133 => bd (f_X7_fewestOf r126 r133 a3) fun r138 => some (r138, r126)) fun w81 => some w81) = some (r, M') ∧ Inv X' M' := by
  obtain ⟨h1, h2, h3', h4, h5, h6, h7⟩ := id hI
  obtain ⟨g, hx, hm, hg⟩ := id h1
  have hn5 := g.1
  have ht := tot_le g
  have hsh : shX (8 + k) := ⟨by omega, by omega⟩
  obtain ⟨G, hG⟩ : ∃ G : Nat → Nat, G = fun l => (ix (X (12 + k) (i + l)) + 5 * sh D l - nw l) % sh D l := ⟨_, rfl⟩
  have val : ∀ l, l < nl D → inB (X (12 + k) (i + l)) 0 (nI (sh D l) - 1) = true → X (12 + k) (i + l) = nI (ix (X (12 + k) (i + l))) ∧ ix (X (12 + k) (i + l)) < sh D l := by
    intro l hl hb
    have hs := g.2.2.1 l hl
    obtain ⟨q, q1, q2⟩ := shade_of (by omega) (by omega) hb
    rw [q2, ixn (by omega)]
    exact ⟨rfl, q1⟩
  have fX : ∀ l a, a ≠ 21 → fill X 21 l (fun o => nI (G o)) a = X a := fun l a ha => fill_ne _ _ _ _ ha
  have xst : ∀ l, l < nl D → i_X6_fewest_84 (fill X 21 l (fun o => nI (G o))) (nI i) a3 (8 + k) (nI l) = if inB (X (12 + k) (i + l)) 0 (nI (sh D l) - 1) = true then some (.inl (fill X 21 (l + 1) (fun o => nI (G o)), nI (l + 1))) else some (.inr (.inr (-2, fill X 21 l (fun o => nI (G o))))) := by
    intro l hl
    have hs := g.2.2.1 l hl
    have hX : XH (fill X 21 l (fun o => nI (G o))) D := hx.fr (fun a ha => fX l a (by omega))
    unfold i_X6_fewest_84
    rw [hX.1, if_neg (by rw [nle (by omega) (by omega)]; omega), nI_add, X_at hsh (z := z) (by rw [fX l _ (by omega)]; exact ez) hz (by omega), bd_s, fX l (8 + k + 4) (by omega), show 8 + k + 4 = 12 + k by omega, X_hasShade hX g hl, bd_s]
    by_cases hb : inB (X (12 + k) (i + l)) 0 (nI (sh D l) - 1) = true
    · obtain ⟨v1, v2⟩ := val l hl hb
      have hw := h2 l hl
      rw [hb, if_pos rfl, if_pos rfl]
      simp only [ck_t (okn (j := l) (n := 5) (by omega) (by decide)), ixn (j := l) (by omega)]
      rw [fX l 23 (by decide), hw.1, hX.2.2.1 l hl, v1, wrap_s _ (by omega) _ (by omega) _ (by omega) (by omega), bd_s, fill_up' (by rw [hG]), nadd1]
    · rw [if_neg hb, bf hb, if_neg (by decide)]
  have mst : ∀ l, l < nl D → i_X7_fewest_81 M a3 (nI (60 * k + i)) (nI l) = if inB (X (12 + k) (i + l)) 0 (nI (sh D l) - 1) = true then some (.inl (nI (l + 1))) else some (.inr (.inr (-2, M))) := by
    intro l hl
    unfold i_X7_fewest_81
    rw [hm.1, if_neg (by rw [nle (by omega) (by omega)]; omega), nI_add, ck_t (okn (by omega) (by decide)), ck_t (okn (by omega) (by decide)), ixn (j := 60 * k + i + l) (by omega), ixn (j := l) (by omega), hm.2.2.1 l hl, M_in, bd_s, nadd1, show 60 * k + i + l = 60 * k + (i + l) by omega, ← e5 (i + l) (by omega)]
  by_cases hall : ∀ l, l < nl D → inB (X (12 + k) (i + l)) 0 (nI (sh D l) - 1) = true
  · rw [iter_to (fun l => (fill X 21 l (fun o => nI (G o)), nI l)) (nl D) (t := .inl (fill X 21 (nl D) (fun o => nI (G o)), nI (nl D))) (by rw [fill_0]; rfl) (fun l hl => by
      show i_X6_fewest_84 (fill X 21 l (fun o => nI (G o))) (nI i) a3 (8 + k) (nI l) = _
      rw [xst l hl, if_pos (hall l hl)]) (by
      show i_X6_fewest_84 (fill X 21 (nl D) (fun o => nI (G o))) (nI i) a3 (8 + k) (nI (nl D)) = _
      unfold i_X6_fewest_84
      rw [fX _ 1 (by decide), hx.1, if_pos (by rw [nle (by omega) (by omega)]; omega)]) (by have := bigN; omega), bd_s, sm_i]
    rw [iter_to (fun l => nI l) (nl D) (t := .inl (nI (nl D))) (by rfl) (fun l hl => by rw [mst l hl, if_pos (hall l hl)]) (by
      unfold i_X7_fewest_81
      rw [hm.1, if_pos (by rw [nle (by omega) (by omega)]; omega)]) (by have := bigN; omega), bd_s, sm_i]
    obtain ⟨M1, m1, m2, m3⟩ := M_findFar hm g
    have hm1 : MH M1 D := hm.fr (by rw [m3 0 (by decide) (by decide)]) (by rw [m3 0 (by decide) (by decide)]) (fun a ha => m3 a (by omega) (by omega))
    have hGr : rok D G := fun l hl => by
      have hs := g.2.2.1 l hl
      rw [hG]
      exact Nat.mod_lt _ (by omega)
    have hX : XH (fill X 21 (nl D) (fun o => nI (G o))) D := hx.fr (fun a ha => fX _ a (by omega))
    have hC : Cch D (fill X 21 (nl D) (fun o => nI (G o))) := h7.fr (fun a ha => fX _ a (by omega)) g
    have hr : ∀ l, l < nl D → fill X 21 (nl D) (fun o => nI (G o)) 21 l = nI (G l) := fun l hl => fill_lo hl
    have hxt : enc D G (nl D) < tot D := enc_lt g hGr (Nat.le_refl _)
    have eo : f_X7_onTo M1 (nI (60 * k + i)) = some (nI (enc D G (nl D))) := by
      rw [hG]
      refine M_onTo hm1 g (by omega) (q := fun l => ix (X (12 + k) (i + l))) (nw := nw) (fun l hl => ?_) (fun l hl => ?_)
      · obtain ⟨v1, v2⟩ := val l hl (hall l hl)
        refine ⟨?_, v2⟩
        rw [m3 3 (by decide) (by decide), show 60 * k + i + l = 60 * k + (i + l) by omega, ← e5 (i + l) (by omega)]
        exact v1
      · rw [m3 5 (by decide) (by decide)]
        exact (h2 l hl).2
    rw [m1, bd_s, eo, bd_s]
    rcases h3 with rfl | ⟨n, hn, rfl⟩
    · obtain ⟨X2, p1, p2⟩ := X_pressesFor hX g hC hr hGr
      show ∃ (r : Int32) (X' M' : St), (if (-1 : Int32) = -1 then (bd (f_X2_pressesFor (fill X 21 (nl D) (fun o => nI (G o))) 21) fun r181 => some (r181.1, r181.2)) else _) = some (r, X') ∧ _
      unfold f_X7_fewestOf
      rw [if_pos rfl, if_pos rfl, p1, bd_s, ck_t (okn (by omega) (by decide)), ixn (by omega), m2 _ hxt, bd_s]
      exact ⟨_, X2, M1, rfl, rfl, D, nw, nr, rs, rl, Inv.reachTo hI (fun a a1 a2 a3 a4 a5 a6 a7 => by rw [p2.2.2.2.2 a a1 a3 a4 a5 a6 a7, fX _ a a2]) m3 (p2.cch g)⟩
    · obtain ⟨X2, p1, p2⟩ := X_place hX g hC hr hGr hn
      show ∃ (r : Int32) (X' M' : St), (if nI n = -1 then _ else (bd (f_X2_placeInRow (fill X 21 (nl D) (fun o => nI (G o))) 21 (nI n)) fun r201 => some (r201.1, r201.2))) = some (r, X') ∧ _
      rw [if_neg (nneg_ne (by omega) (by decide)), p1, bd_s, M_fewestOf hm1 g m2 hxt hn, bd_s]
      exact ⟨_, X2, M1, rfl, rfl, D, nw, nr, rs, rl, Inv.reachTo hI (fun a a1 a2 a3 a4 a5 a6 a7 => by rw [p2.2.2.2.2 a a1 a3 a4 a5 a6 a7, fX _ a a2]) m3 (p2.cch g)⟩
  · have hex : ∃ j, 0 ≤ j ∧ j < 0 + nl D ∧ (!inB (X (12 + k) (i + j)) 0 (nI (sh D j) - 1)) = true := by
      refine Classical.byContradiction (fun hc => hall (fun l hl => ?_))
      refine Classical.byContradiction (fun hb => hc ⟨l, Nat.zero_le _, by omega, by rw [bf hb]; rfl⟩)
    obtain ⟨k1, k2, k3, k4⟩ := fnd_sp (fun j => !inB (X (12 + k) (i + j)) 0 (nI (sh D j) - 1)) (nl D) 0 hex
    generalize fnd (fun j => !inB (X (12 + k) (i + j)) 0 (nI (sh D j) - 1)) (nl D) 0 = j at k1 k2 k3 k4
    have kj : ¬ inB (X (12 + k) (i + j)) 0 (nI (sh D j) - 1) = true := fun q => by
      have k1' : (!inB (X (12 + k) (i + j)) 0 (nI (sh D j) - 1)) = true := k1
      rw [q] at k1'
      exact absurd k1' (by decide)
    have kl : ∀ l, l < j → inB (X (12 + k) (i + l)) 0 (nI (sh D l) - 1) = true := fun l hl => by
      have k4' : (!inB (X (12 + k) (i + l)) 0 (nI (sh D l) - 1)) = false := k4 l (Nat.zero_le _) hl
      simpa using k4'
    rw [iter_to (fun l => (fill X 21 l (fun o => nI (G o)), nI l)) j (t := .inr (-2, fill X 21 j (fun o => nI (G o)))) (by rw [fill_0]; rfl) (fun l hl => by
      show i_X6_fewest_84 (fill X 21 l (fun o => nI (G o))) (nI i) a3 (8 + k) (nI l) = _
      rw [xst l (by omega), if_pos (kl l hl)]) (by
      show i_X6_fewest_84 (fill X 21 j (fun o => nI (G o))) (nI i) a3 (8 + k) (nI j) = _
      rw [xst j (by omega), if_neg kj]) (by have := bigN; omega), bd_s, sm_o]
    rw [iter_to (fun l => nI l) j (t := .inr (-2, M)) (by rfl) (fun l hl => by rw [mst l (by omega), if_pos (kl l hl)]) (by rw [mst j (by omega), if_neg kj]) (by have := bigN; omega), bd_s, sm_o]
    exact ⟨_, _, M, rfl, rfl, D, nw, nr, rs, rl, Inv.reachTo hI (fun a a1 a2 a3 a4 a5 a6 a7 => fX _ a a2) (fun _ _ _ => rfl) (h7.fr (fun a ha => fX _ a (by omega)) g)⟩
theorem place_of {a : Int32} (h : inB a (-1) 99 = true) : a = -1 ∨ ∃ n, n ≤ 99 ∧ a = nI n := by
  by_cases e : a = -1
  · exact Or.inl e
  · right
    obtain ⟨h1, h2⟩ := inB_t h
    refine inB_n (n := 99) (by decide) (inB_of ?_ h2)
    intro h3
    rw [Int32.lt_iff_toInt_lt] at h1 h3
    have e1 : (-1 : Int32).toInt = -1 := by decide
    have e0 : (0 : Int32).toInt = 0 := by decide
    rw [e1] at h1
    rw [e0] at h3
    exact e (Int32.toInt_inj.mp (by rw [e1]; omega))
theorem sim_fewest : Sim_fewest Inv := by
  intro Sx Sm a0 a1 a2 a3 h0
  unfold f_X6_fewest f_X7_fewest
  have h := h0.fault 0
  generalize up Sx 0 8 (0 : Int32) = X at h ⊢
  generalize up Sm 0 0 (0 : Int32) = M at h ⊢
  obtain ⟨D, nw, nr, rs, rl, hI⟩ := id h
  obtain ⟨h1, h2, h3, h4, h5, h6, h7⟩ := id hI
  obtain ⟨g, hx, hm, hg⟩ := id h1
  have hn5 := g.1
  unfold f_X1_isMissing
  rw [hx.1, hm.1]
  by_cases c3 : nl D = 0
  · rw [c3, if_pos (show nI 0 = (0 : Int32) from rfl), if_pos (show nI 0 = (0 : Int32) from rfl), bd_s, if_neg (by decide)]
    exact ⟨_, X, M, rfl, rfl, h⟩
  have c3' : ¬ nI (nl D) = (0 : Int32) := nI_ne0 (by omega) (by omega)
  rw [if_neg c3', if_neg c3', bd_s, if_pos rfl]
  rcases nix2 a0 (n := 4) (by decide) with ha | ⟨k, hk, rfl⟩
  · rw [X_sheetAt0 ha, M_isSheet0 ha, bd_s, bd_s, op_0, if_neg (by decide)]
    exact ⟨_, X, M, rfl, rfl, h⟩
  have hsh : shX (8 + k) := ⟨by omega, by omega⟩
  rw [X_sheetAt1 hk, M_isSheet1 hk, bd_s, bd_s, op_1, if_pos rfl, ck_t hsh, X_lane, M_sort, bd_s, bd_s]
  by_cases hl : inB a1 0 2 = false
  · rw [if_pos hl, if_pos hl]
    exact ⟨_, X, M, rfl, rfl, h⟩
  rw [if_neg hl, if_neg hl, X_in, M_in, bd_s, bd_s]
  by_cases hn : inB a3 (-1) 99 = true
  · rw [if_pos hn, if_pos hn]
    unfold f_X6_faulted f_X7_fails
    rcases h6 k hk with ⟨e1, e2⟩ | ⟨z, la, hz, hla, e1, e2, e3, e4, e5⟩
    · rw [X_foc0 hsh e1, M_against0 hk e2]
      simp only [bd_s, if_neg (show ¬ (1 : Int32) = 0 by decide)]
      exact ⟨_, _, _, rfl, rfl, h.fault 1⟩
    rw [X_foc1 hsh e1 hz e3, M_against1 hk hz hla e4 e2, if_neg (nnot0 (a := nl D) (by omega))]
    by_cases el : nI la = a1
    · simp only [if_pos el]
      by_cases hc : hcB z a2 (nI (nl D)) = true
      · simp only [if_pos hc, bd_s, if_true, if_pos (show (0 : Int32) = 0 from rfl)]
        obtain ⟨i, b, rfl, hb, hib⟩ := hcB_t hz hc
        have hbn : b = nl D := by
          have := congrArg Int32.toInt hb
          rw [nI_toInt (by omega), nI_toInt (by omega)] at this
          omega
        rw [show (60 : Int32) * nI k + nI i = nI (60 * k + i) by rw [show (60 : Int32) * nI k = nI (60 * k) from pk_mul 60 k, nI_add]]
        exact fewest_core hI hk hz e1 (by omega) e5 (place_of hn)
      · simp only [if_neg hc, bd_s, if_neg (show ¬ (3 : Int32) = 0 by decide)]
        exact ⟨_, _, _, rfl, rfl, h.fault 3⟩
    · simp only [if_neg el, bd_s, if_neg (show ¬ (2 : Int32) = 0 by decide)]
      exact ⟨_, _, _, rfl, rfl, h.fault 2⟩
  · rw [if_neg hn, if_neg hn]
    exact ⟨_, X, M, rfl, rfl, h⟩
