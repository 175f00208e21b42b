/-! readings, presses, trace, kinds of switches -/
theorem X_pia {S : St} {D : HD} (h : XH S D) (g : GH D) : f_X1_pressesInAll S = some (sumI (S 27) (ns D)) := by
  have h6 := g.2.1
  unfold f_X1_pressesInAll
  rw [iter_to (fun i => (sumI (S 27) i, nI i)) (ns D) (t := (sumI (S 27) (ns D), nI (ns D))) (by rfl), bd_s]
  · intro i hi
    show i_X1_pressesInAll_4 S (sumI (S 27) i) (nI i) = _
    unfold i_X1_pressesInAll_4
    rw [h.2.1, if_neg (by rw [nle (by omega) (by omega)]; omega), ck_t (okn (by omega) (by decide)), ixn (by omega), nadd1]
    rfl
  · show i_X1_pressesInAll_4 S (sumI (S 27) (ns D)) (nI (ns D)) = _
    unfold i_X1_pressesInAll_4
    rw [h.2.1, if_pos (by rw [nle (by omega) (by omega)]; omega)]
  · have := bigN; omega
theorem sim_many : Sim_many Inv := by
  intro Sx Sm a0 h
  obtain ⟨D, nw, nr, rs, rl, h1, h2, h3, h4, h5, h6, h7⟩ := id h
  obtain ⟨g, hx, hm, -⟩ := h1
  have hl5 := g.1
  unfold f_X6_many f_X7_many
  rw [X_dark hx g (k := 23) ⟨by decide, by decide⟩ (by decide) (fun l hl => (h2 l hl).1) (fun l hl => (h2 l hl).2.2), M_dark hm g (fun l hl => (h2 l hl).2.1) (fun l hl => (h2 l hl).2.2), X_pia hx g, hx.1, hm.1, hx.2.1, hm.2.1, h5.2.1, h5.2.2.1, h3.2]
  simp only [bd_s]
  by_cases w0 : a0 = 0
  · simp only [if_pos w0]
    exact ⟨_, Sx, Sm, ⟨rfl, rfl⟩, ⟨rfl, rfl⟩, h⟩
  simp only [if_neg w0]
  by_cases w1 : a0 = 1
  · simp only [if_pos w1]
    exact ⟨_, Sx, Sm, ⟨rfl, rfl⟩, ⟨rfl, rfl⟩, h⟩
  simp only [if_neg w1]
  by_cases w2 : a0 = 2
  · simp only [if_pos w2]
    exact ⟨_, Sx, Sm, ⟨rfl, rfl⟩, ⟨rfl, rfl⟩, h⟩
  simp only [if_neg w2]
  by_cases w3 : a0 = 3
  · simp only [if_pos w3]
    exact ⟨_, Sx, Sm, ⟨rfl, rfl⟩, ⟨rfl, rfl⟩, h⟩
  simp only [if_neg w3]
  by_cases w4 : a0 = 4
  · simp only [if_pos w4]
    exact ⟨_, Sx, Sm, ⟨rfl, rfl⟩, ⟨rfl, rfl⟩, h⟩
  simp only [if_neg w4]
  exact ⟨_, Sx, Sm, ⟨rfl, rfl⟩, ⟨rfl, rfl⟩, h⟩
theorem sim_press : Sim_press Inv := by
  intro Sx Sm a0 a1 h
  obtain ⟨D, nw, nr, rs, rl, hI⟩ := id h
  obtain ⟨h1, h2, h3, h4, h5, h6, h7⟩ := id hI
  obtain ⟨g, hx, hm, hg⟩ := h1
  have hl5 := g.2.1
  unfold f_X6_press f_X7_press
  rcases nix2 a0 (n := ns D) (by omega) with ha | ⟨j, hj, rfl⟩
  · rw [X_sw0 hx ha, M_sw0 hm ha, bd_s, bd_s, if_neg (by decide), if_neg (by decide)]
    exact ⟨_, Sx, Sm, rfl, rfl, h⟩
  · rw [X_sw1 hx g hj, M_sw1 hm g hj, bd_s, bd_s, if_pos rfl, if_pos rfl, X_in, M_in, bd_s, bd_s]
    by_cases hv : inB a1 1 99 = true
    · rw [hv, if_pos rfl, if_pos rfl]
      obtain ⟨hv1, hv2⟩ := inB_t hv
      obtain ⟨n, hn, rfl⟩ : ∃ n : Nat, n ≤ 99 ∧ a1 = nI n := nI_of2 (M := 99) (n := 99) rfl (fun q => hv1 (Int32.lt_trans q (by decide))) (by rw [Int32.le_iff_toInt_le]; rw [Int32.lt_iff_toInt_lt] at hv2; omega)
      rw [X_press hx g (k := 23) ⟨by decide, by decide⟩ (by decide) (by decide) hj (fun l hl => (h2 l hl).1) (fun l hl => (h2 l hl).2.2) hn, M_turns hm g hj (fun l hl => (h2 l hl).2.1) (fun l hl => (h2 l hl).2.2) hn, bd_s, bd_s]
      simp only [ck_t (okn (j := j) (n := 5) (by omega) (by decide)), ixn (j := j) (by omega)]
      generalize hX : fill Sx 23 (nl D) (fun l => nI (prs D j n nw l)) = X
      generalize hM : fill Sm 5 (nl D) (fun l => nI (prs D j n nw l)) = M
      have hI' : InvD D (prs D j n nw) nr rs rl X M := Inv.nowTo hI _ (fun l hl => by rw [← hX, ← hM]; exact ⟨fill_lo hl, fill_lo hl, prs_lt g hl⟩) (fun a ha => by rw [← hX]; exact fill_ne _ _ _ _ ha) (fun a ha => by rw [← hM]; exact fill_ne _ _ _ _ ha)
      clear hX hM
      have hI2 : InvD D (prs D j n nw) nr rs rl (up X 27 j (X 27 j + nI n)) (up (up M 9 j (M 9 j + nI n)) 0 7 (up M 9 j (M 9 j + nI n) 0 7 + nI n)) := by
        obtain ⟨h1, h2, h3, h4, h5, h6, h7⟩ := hI'
        have ex : ∀ a, a ≠ 27 → up X 27 j (X 27 j + nI n) a = X a := fun a ha => up_ne _ _ _ _ ha
        have em : ∀ a, a ≠ 0 → a ≠ 9 → up (up M 9 j (M 9 j + nI n)) 0 7 (up M 9 j (M 9 j + nI n) 0 7 + nI n) a = M a := fun a ha ha' => by rw [up_ne _ _ _ _ ha, up_ne _ _ _ _ ha']
        have em0 : ∀ b, b ≠ 7 → up (up M 9 j (M 9 j + nI n)) 0 7 (up M 9 j (M 9 j + nI n) 0 7 + nI n) 0 b = M 0 b := fun b hb => by rw [up_ap, if_pos rfl, if_neg hb, up_ne _ _ _ _ (by decide)]
        refine ⟨h1.fr (fun a ha => ex a (by omega)) (em0 5 (by decide)) (em0 6 (by decide)) (fun a ha => em a (by omega) (by omega)), h2.fr (ex 23 (by decide)) (em 5 (by decide) (by decide)), ⟨fun s hs => ?_, ?_⟩, h4.fr (by rw [ex 0 (by decide)]) (by rw [ex 0 (by decide)]) (em0 0 (by decide)) (em0 1 (by decide)), h5.fr (by rw [ex 4 (by decide)]) (fun a ha => ex a (by omega)) (em0 24 (by decide)) (fun a ha => em a (by omega) (by omega)), h6.fr (fun a h8 h16 => ex a (by omega)) (fun a ha => em a (by omega) (by omega)), h7.fr (fun a ha => ex a (by omega)) h1.1⟩
        · rw [up_ne _ 0 _ _ (by decide), up_ap, up_ap, if_pos rfl, if_pos rfl, h3.1 s hs]
          by_cases e : s = j
          · subst e; simp only [if_pos]; rw [h3.1 s hs]
          · simp only [if_neg e]
        · rw [up_ap, if_pos rfl, if_pos rfl, up_ne _ _ _ _ (by decide), h3.2, ← sumI_upd hj]
          refine sumI_cong (fun k hk => ?_)
          rw [up_ap, if_pos rfl]
          by_cases e : k = j
          · subst e; simp only [if_pos]
          · simp only [if_neg e]
      obtain ⟨k1, k2, -⟩ := id hI2
      rw [X_dark k1.2.1 g (k := 23) ⟨by decide, by decide⟩ (by decide) (fun l hl => (k2 l hl).1) (fun l hl => (k2 l hl).2.2), M_dark k1.2.2.1 g (fun l hl => (k2 l hl).2.1) (fun l hl => (k2 l hl).2.2), bd_s, bd_s]
      exact ⟨_, _, _, rfl, rfl, D, _, nr, rs, rl, hI2⟩
    · rw [if_neg hv, if_neg hv]
      exact ⟨_, Sx, Sm, rfl, rfl, h⟩
/-- the cache forgotten, the hall another -/
theorem Inv.hallTo {D D' : HD} {nw : Nat → Nat} {nr : Nat} {rs rl : Nat → Nat} {Sx Sm Sx' Sm' : St} (h : InvD D nw nr rs rl Sx Sm) (g' : GH D') (hx : XH Sx' D') (hm : MH Sm' D') (e1 : nl D' = nl D) (e2 : ns D' = ns D) (e3 : sh D' = sh D) (ec : Sx' 3 6 = -1) (ex : ∀ a, a ≠ 3 → a ≠ 25 → a ≠ 26 → Sx' a = Sx a) (em : ∀ a, a ≠ 7 → a ≠ 8 → Sm' a = Sm a) : InvD D' nw nr rs rl Sx' Sm' := by
  obtain ⟨h1, h2, h3, h4, h5, h6, h7⟩ := h
  have x0 := ex 0 (by decide) (by decide) (by decide)
  have m0 := em 0 (by decide) (by decide)
  refine ⟨⟨g', hx, hm, by rw [e1, e2]; exact h1.2.2.2⟩, ?_, ?_, h4.fr (by rw [x0]) (by rw [x0]) (by rw [m0]) (by rw [m0]), ?_, h6.fr (fun a h8 h16 => ex a (by omega) (by omega) (by omega)) (fun a ha => em a (by omega) (by omega)), Or.inl ec⟩
  · unfold I2
    rw [e1, e3, ex 23 (by decide) (by decide) (by decide), em 5 (by decide) (by decide)]
    exact h2
  · unfold I3
    rw [e2, ex 27 (by decide) (by decide) (by decide), em 9 (by decide) (by decide), m0]
    exact h3
  · unfold I5
    rw [e1, e2, ex 4 (by decide) (by decide) (by decide), ex 33 (by decide) (by decide) (by decide), ex 34 (by decide) (by decide) (by decide), ex 35 (by decide) (by decide) (by decide), m0, em 15 (by decide) (by decide), em 16 (by decide) (by decide), em 17 (by decide) (by decide)]
    exact h5
theorem sim_turn : Sim_turn Inv := by
  intro Sx Sm a0 a1 h
  obtain ⟨D, nw, nr, rs, rl, hI⟩ := id h
  obtain ⟨h1, h2, h3, h4, h5, h6, h7⟩ := id hI
  obtain ⟨g, hx, hm, hg⟩ := h1
  have hl5 := g.2.1
  unfold f_X6_turn f_X7_turn
  rcases nix2 a0 (n := ns D) (by omega) with ha | ⟨j, hj, rfl⟩
  · rw [X_sw0 hx ha, M_sw0 hm ha, bd_s, bd_s, if_neg (by decide), if_neg (by decide)]
    exact ⟨_, Sx, Sm, rfl, rfl, h⟩
  · rw [X_sw1 hx g hj, M_sw1 hm g hj, bd_s, bd_s, if_pos rfl, if_pos rfl, X_in, M_in, bd_s, bd_s]
    by_cases hv : inB a1 1 4 = true
    · rw [hv, if_pos rfl, if_pos rfl]
      obtain ⟨hv1, hv2⟩ := inB_t hv
      obtain ⟨n, hn, rfl⟩ : ∃ n : Nat, n ≤ 4 ∧ a1 = nI n := nI_of2 (M := 4) (n := 4) rfl (fun q => hv1 (Int32.lt_trans q (by decide))) (by rw [Int32.le_iff_toInt_le]; rw [Int32.lt_iff_toInt_lt] at hv2; omega)
      have hn1 : 1 ≤ n := by
        rcases Nat.eq_zero_or_pos n with q | q
        · subst q; exact absurd (by decide) hv1
        · exact q
      unfold f_X2_forget
      simp only [ck_t (okn (j := j) (n := 5) (by omega) (by decide)), ixn (j := j) (by omega), bd_s, (hx.2.2.2 j hj).2.1, (hm.2.2.2 j hj).2.1]
      refine ⟨_, _, _, rfl, rfl, (nl D, ns D, sh D, kd D, (fun s => if s = j then n else tn D s), wr D), nw, nr, rs, rl, Inv.hallTo hI ?_ ?_ ?_ rfl rfl rfl ?_ ?_ ?_⟩
      · refine ⟨g.1, g.2.1, g.2.2.1, fun s hs => ?_⟩
        have := g.2.2.2 s hs
        show kd D s ≤ 2 ∧ 1 ≤ (if s = j then n else tn D s) ∧ (if s = j then n else tn D s) ≤ 4 ∧ wr D s < 32
        split <;> omega
      · refine ⟨by rw [up_ne _ _ _ _ (by decide), up_ne _ _ _ _ (by decide)]; exact hx.1, by rw [up_ne _ _ _ _ (by decide), up_ne _ _ _ _ (by decide)]; exact hx.2.1, fun l hl => by rw [up_ne _ _ _ _ (by decide), up_ne _ _ _ _ (by decide)]; exact hx.2.2.1 l hl, fun s hs => ?_⟩
        rw [show up (up Sx 25 j (nI n)) 3 6 (-1) 24 = Sx 24 by rw [up_ne _ _ _ _ (by decide), up_ne _ _ _ _ (by decide)], show up (up Sx 25 j (nI n)) 3 6 (-1) 26 = Sx 26 by rw [up_ne _ _ _ _ (by decide), up_ne _ _ _ _ (by decide)], show up (up Sx 25 j (nI n)) 3 6 (-1) 25 s = (if s = j then nI n else Sx 25 s) by rw [up_ne _ _ _ _ (by decide), up_ap, if_pos rfl]]
        refine ⟨(hx.2.2.2 s hs).1, ?_, (hx.2.2.2 s hs).2.2⟩
        show _ = nI (if s = j then n else tn D s)
        by_cases e : s = j
        · simp only [if_pos e]
        · simp only [if_neg e]; exact (hx.2.2.2 s hs).2.1
      · refine ⟨by rw [up_ne _ _ _ _ (by decide)]; exact hm.1, by rw [up_ne _ _ _ _ (by decide)]; exact hm.2.1, fun l hl => by rw [up_ne _ _ _ _ (by decide)]; exact hm.2.2.1 l hl, fun s hs => ?_⟩
        rw [show up Sm 7 j (nI n) 6 = Sm 6 from up_ne _ _ _ _ (by decide), show up Sm 7 j (nI n) 8 = Sm 8 from up_ne _ _ _ _ (by decide), show up Sm 7 j (nI n) 7 s = (if s = j then nI n else Sm 7 s) by rw [up_ap, if_pos rfl]]
        refine ⟨(hm.2.2.2 s hs).1, ?_, (hm.2.2.2 s hs).2.2⟩
        show _ = nI (if s = j then n else tn D s)
        by_cases e : s = j
        · simp only [if_pos e]
        · simp only [if_neg e]; exact (hm.2.2.2 s hs).2.1
      · rw [up_ap, if_pos rfl, if_pos rfl]
      · intro a ha1 ha2 ha3; rw [up_ne _ _ _ _ ha1, up_ne _ _ _ _ ha2]
      · intro a ha1 ha2; rw [up_ne _ _ _ _ ha1]
    · rw [if_neg hv, if_neg hv]
      exact ⟨_, Sx, Sm, rfl, rfl, h⟩
theorem flip_of : ∀ w, w < 32 → ∀ l, l < 5 → nI w ^^^ shl32 (1 : Int32) (nI l) = nI (w ^^^ 2 ^ l) ∧ w ^^^ 2 ^ l < 32 := by decide +kernel
theorem bit_val : ∀ w, w < 32 → ∀ l, l < 5 → shr32 (nI w) (nI l) &&& (1 : Int32) = if w.testBit l then 1 else 0 := by decide +kernel
theorem sim_wire : Sim_wire Inv := by
  intro Sx Sm a0 a1 h
  obtain ⟨D, nw, nr, rs, rl, hI⟩ := id h
  obtain ⟨h1, h2, h3, h4, h5, h6, h7⟩ := id hI
  obtain ⟨g, hx, hm, hg⟩ := h1
  have hs5 := g.2.1
  have hl5 := g.1
  unfold f_X6_wire f_X7_wire
  rcases nix2 a0 (n := ns D) (by omega) with ha | ⟨j, hj, rfl⟩
  · rw [X_sw0 hx ha, M_sw0 hm ha, bd_s, bd_s, if_pos rfl, if_pos rfl]
    exact ⟨_, Sx, Sm, rfl, rfl, h⟩
  rw [X_sw1 hx g hj, M_sw1 hm g hj, bd_s, bd_s, if_neg (by decide), if_neg (by decide)]
  rcases nix2 a1 (n := nl D) (by omega) with ha | ⟨i, hi, rfl⟩
  · rw [X_lamp0 hx ha, M_lamp0 hm ha, bd_s, bd_s, if_neg (by decide), if_neg (by decide)]
    exact ⟨_, Sx, Sm, rfl, rfl, h⟩
  rw [X_lamp1 hx g hi, M_lamp1 hm g hi, bd_s, bd_s, if_pos rfl, if_pos rfl]
  have hw := (g.2.2.2 j hj).2.2.2
  obtain ⟨e1, e2⟩ := flip_of _ hw i (by omega)
  unfold f_X2_forget
  simp only [ck_t (okn (j := j) (n := 5) (by omega) (by decide)), ixn (j := j) (by omega), bd_s, (hx.2.2.2 j hj).2.2, (hm.2.2.2 j hj).2.2, e1]
  generalize hw' : wr D j ^^^ 2 ^ i = w' at e2
  obtain ⟨D', hD⟩ : ∃ D' : HD, D' = (nl D, ns D, sh D, kd D, tn D, fun s => if s = j then w' else wr D s) := ⟨_, rfl⟩
  have g' : GH D' := by
    subst hD
    refine ⟨g.1, g.2.1, g.2.2.1, fun s hs => ?_⟩
    have := g.2.2.2 s hs
    show kd D s ≤ 2 ∧ 1 ≤ tn D s ∧ tn D s ≤ 4 ∧ (if s = j then w' else wr D s) < 32
    split <;> omega
  have hx' : XH (up (up Sx 26 j (nI w')) 3 6 (-1)) D' := by
    subst hD
    refine ⟨by rw [up_ne _ _ _ _ (by decide), up_ne _ _ _ _ (by decide)]; exact hx.1, by rw [up_ne _ _ _ _ (by decide), up_ne _ _ _ _ (by decide)]; exact hx.2.1, fun l hl => by rw [up_ne _ _ _ _ (by decide), up_ne _ _ _ _ (by decide)]; exact hx.2.2.1 l hl, fun s hs => ?_⟩
    rw [show up (up Sx 26 j (nI w')) 3 6 (-1) 24 = Sx 24 by rw [up_ne _ _ _ _ (by decide), up_ne _ _ _ _ (by decide)], show up (up Sx 26 j (nI w')) 3 6 (-1) 25 = Sx 25 by rw [up_ne _ _ _ _ (by decide), up_ne _ _ _ _ (by decide)], show up (up Sx 26 j (nI w')) 3 6 (-1) 26 s = (if s = j then nI w' else Sx 26 s) by rw [up_ne _ _ _ _ (by decide), up_ap, if_pos rfl]]
    refine ⟨(hx.2.2.2 s hs).1, (hx.2.2.2 s hs).2.1, ?_⟩
    show _ = nI (if s = j then w' else wr D s)
    by_cases e : s = j
    · simp only [if_pos e]
    · simp only [if_neg e]; exact (hx.2.2.2 s hs).2.2
  have hm' : MH (up Sm 8 j (nI w')) D' := by
    subst hD
    refine ⟨by rw [up_ne _ _ _ _ (by decide)]; exact hm.1, by rw [up_ne _ _ _ _ (by decide)]; exact hm.2.1, fun l hl => by rw [up_ne _ _ _ _ (by decide)]; exact hm.2.2.1 l hl, fun s hs => ?_⟩
    rw [show up Sm 8 j (nI w') 6 = Sm 6 from up_ne _ _ _ _ (by decide), show up Sm 8 j (nI w') 7 = Sm 7 from up_ne _ _ _ _ (by decide), show up Sm 8 j (nI w') 8 s = (if s = j then nI w' else Sm 8 s) by rw [up_ap, if_pos rfl]]
    refine ⟨(hm.2.2.2 s hs).1, (hm.2.2.2 s hs).2.1, ?_⟩
    show _ = nI (if s = j then w' else wr D s)
    by_cases e : s = j
    · simp only [if_pos e]
    · simp only [if_neg e]; exact (hm.2.2.2 s hs).2.2
  have hI' : InvD D' nw nr rs rl (up (up Sx 26 j (nI w')) 3 6 (-1)) (up Sm 8 j (nI w')) := Inv.hallTo hI g' hx' hm' (by rw [hD]) (by rw [hD]) (by rw [hD]) (by rw [up_ap, if_pos rfl, if_pos rfl]) (fun a ha1 ha2 ha3 => by rw [up_ne _ _ _ _ ha1, up_ne _ _ _ _ ha3]) (fun a ha1 ha2 => by rw [up_ne _ _ _ _ ha2])
  have hwj : wr D' j = w' := by rw [hD]; exact if_pos rfl
  have hj' : j < ns D' := by rw [hD]; exact hj
  rw [X_wired hx' g' hj' (by omega), bd_s, hwj, up_ap, if_pos rfl, if_pos rfl, bit_val _ e2 i (by omega)]
  by_cases hb : w'.testBit i = true
  · rw [hb, if_neg (by decide), if_pos rfl]
    exact ⟨_, _, _, rfl, rfl, D', nw, nr, rs, rl, hI'⟩
  · simp only [Bool.not_eq_true] at hb
    rw [hb, if_pos rfl, if_neg (by decide)]
    exact ⟨_, _, _, rfl, rfl, D', nw, nr, rs, rl, hI'⟩
/-! trace -/
theorem Inv.leave {Sx Sm : St} (h : Inv Sx Sm) (n : Int32) : Inv (up Sx 0 7 (31 * Sx 0 7 + n)) (up Sm 0 1 (31 * Sm 0 1 + n)) := by
  obtain ⟨D, nw, nr, rs, rl, h1, h2, h3, h4, h5, h6, h7⟩ := h
  have ex : ∀ a, a ≠ 0 → up Sx 0 7 (31 * Sx 0 7 + n) a = Sx a := fun a ha => up_ne _ _ _ _ ha
  have em : ∀ a, a ≠ 0 → up Sm 0 1 (31 * Sm 0 1 + n) a = Sm a := fun a ha => up_ne _ _ _ _ ha
  have em0 : ∀ b, b ≠ 1 → up Sm 0 1 (31 * Sm 0 1 + n) 0 b = Sm 0 b := fun b hb => by rw [up_ap, if_pos rfl, if_neg hb]
  refine ⟨D, nw, nr, rs, rl, h1.fr (fun a ha => ex a (by omega)) (em0 5 (by decide)) (em0 6 (by decide)) (fun a ha => em a (by omega)), h2.fr (ex 23 (by decide)) (em 5 (by decide)), h3.fr (ex 27 (by decide)) (em 9 (by decide)) (em0 7 (by decide)), ⟨by rw [up_ap, up_ap]; exact h4.1, by rw [up_ap, up_ap, if_pos rfl, if_pos rfl, if_pos rfl, if_pos rfl, h4.2]⟩, h5.fr (by rw [ex 4 (by decide)]) (fun a ha => ex a (by omega)) (em0 24 (by decide)) (fun a ha => em a (by omega)), h6.fr (fun a h8 _ => ex a (by omega)) (fun a ha => em a (by omega)), h7.fr (fun a ha => ex a (by omega)) h1.1⟩
theorem sim_tell : Sim_tell Inv := by
  intro Sx Sm a0 h
  obtain ⟨D, nw, nr, rs, rl, h1, h2, h3, h4, h5, h6, h7⟩ := id h
  obtain ⟨g, hx, hm, hg⟩ := h1
  have hl5 := g.2.1
  unfold f_X6_tell f_X7_tell
  rcases nix2 a0 (n := ns D) (by omega) with ha | ⟨j, hj, rfl⟩
  · rw [X_sw0 hx ha, M_sw0 hm ha, bd_s, bd_s, if_neg (by decide), if_neg (by decide)]
    exact ⟨_, Sx, Sm, rfl, rfl, h⟩
  rw [X_sw1 hx g hj, M_sw1 hm g hj, bd_s, bd_s, if_pos rfl, if_pos rfl]
  simp only [ck_t (okn (j := j) (n := 5) (by omega) (by decide)), ixn (j := j) (by omega), f_X6_broadBody, f_X6_doubleBody, f_X6_plainBody, f_X6_leave, f_X7_begins, bd_s, (hx.2.2.2 j hj).1, (hm.2.2.2 j hj).1, (hx.2.2.2 j hj).2.1, (hm.2.2.2 j hj).2.1]
  by_cases w1 : nI (kd D j) = 1
  · simp only [if_pos w1]
    exact ⟨_, _, _, rfl, rfl, (h.leave 2).leave 1⟩
  simp only [if_neg w1]
  by_cases w2 : nI (kd D j) = 2
  · simp only [if_pos w2]
    refine ⟨_, _, _, rfl, ?_, (((h.leave 3).leave 2).leave 1).leave 1⟩
    have e : (2 : Int32) * nI (tn D j) + 100 = nI (tn D j) + 100 + nI (tn D j) := by
      rw [show (2 : Int32) * nI (tn D j) = nI (2 * tn D j) from pk_mul 2 _, show nI (2 * tn D j) + (100 : Int32) = nI (2 * tn D j + 100) from nI_add _ 100, show nI (tn D j) + (100 : Int32) = nI (tn D j + 100) from nI_add _ 100, nI_add]
      congr 1
      omega
    rw [e]
  simp only [if_neg w2]
  exact ⟨_, _, _, rfl, rfl, h.leave 1⟩
theorem sim_feel : Sim_feel Inv := by
  intro Sx Sm a0 h
  obtain ⟨D, nw, nr, rs, rl, h1, h2, h3, h4, h5, h6, h7⟩ := id h
  obtain ⟨g, hx, hm, hg⟩ := h1
  have hl5 := g.2.1
  unfold f_X6_feel f_X7_feel
  rcases nix2 a0 (n := ns D) (by omega) with ha | ⟨j, hj, rfl⟩
  · rw [X_sw0 hx ha, M_sw0 hm ha, bd_s, bd_s, if_neg (by decide), if_neg (by decide)]
    exact ⟨_, Sx, Sm, rfl, rfl, h⟩
  rw [X_sw1 hx g hj, M_sw1 hm g hj, bd_s, bd_s, if_pos rfl, if_pos rfl]
  have em : ∀ b, ∀ v, up Sm 0 1 v 6 b = Sm 6 b := fun b v => by rw [up_ne _ _ _ _ (by decide)]
  simp only [ck_t (okn (j := j) (n := 5) (by omega) (by decide)), ixn (j := j) (by omega), f_X6_ownBody, f_X6_lentBody, f_X6_leave, f_X7_begins, j_X7_feel_26, bd_s, em, (hx.2.2.2 j hj).1, (hm.2.2.2 j hj).1]
  by_cases w2 : nI (kd D j) = 2
  · simp only [if_pos w2]
    exact ⟨_, _, _, rfl, rfl, h.leave 5⟩
  simp only [if_neg w2]
  exact ⟨_, _, _, rfl, rfl, h.leave 4⟩
theorem sim_as : Sim_as Inv := by
  intro Sx Sm a0 a1 h0
  unfold f_X6_as f_X7_as
  have h := h0.fault 0
  generalize up Sx 0 8 (0 : Int32) = X at h ⊢
  generalize up Sm 0 0 (0 : Int32) = M at h ⊢
  obtain ⟨D, nw, nr, rs, rl, h1, h2, h3, h4, h5, h6, h7⟩ := id h
  obtain ⟨g, hx, hm, hg⟩ := h1
  have hl5 := g.2.1
  rcases nix2 a0 (n := ns D) (by omega) with ha | ⟨j, hj, rfl⟩
  · rw [X_sw0 hx ha, M_sw0 hm ha, bd_s, bd_s, if_neg (by decide), if_neg (by decide)]
    exact ⟨_, X, M, rfl, rfl, h⟩
  rw [X_sw1 hx g hj, M_sw1 hm g hj, bd_s, bd_s, if_pos rfl, if_pos rfl, X_in, M_in, bd_s, bd_s]
  by_cases hv : inB a1 0 2 = true
  · rw [hv, if_pos rfl, if_pos rfl]
    simp only [ck_t (okn (j := j) (n := 5) (by omega) (by decide)), ixn (j := j) (by omega), f_X6_faulted, f_X7_fails, bd_s, (hx.2.2.2 j hj).1, (hm.2.2.2 j hj).1]
    by_cases w2 : nI (kd D j) < a1
    · simp only [if_pos w2]
      exact ⟨_, _, _, rfl, rfl, h.fault 2⟩
    simp only [if_neg w2]
    exact ⟨_, _, _, rfl, rfl, h⟩
  · rw [if_neg hv, if_neg hv]
    exact ⟨_, X, M, rfl, rfl, h⟩
