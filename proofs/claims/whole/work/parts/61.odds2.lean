theorem X_common {a b : Nat} (ha : a < 1000) (hb : b < 1000) : f_X6_commonDivisor (nI a) (nI b) = some (nI (Nat.gcd a b)) := by
  unfold f_X6_commonDivisor
  obtain ⟨t, h1, h2⟩ := X_gcd 10 a b 0 BIG (by omega) (by omega) (by omega) (by decide) (by decide)
  rw [show (iter (fun q => i_X6_commonDivisor_7 q.1 q.2.1 q.2.2) BIG (nI a, nI b, (0 : Int32))) = some t from h1, bd_s, h2]
theorem M_least {u d : Nat} (hu : u < 1000) (hd : d < 1000) (h0 : 0 < d) (w : Int32) : f_X7_inLeastTerms (lN u) (lN d) w = some (if w = 0 then lN (u / Nat.gcd u d) else lN (d / Nat.gcd u d)) := by
  unfold f_X7_inLeastTerms
  obtain ⟨t, h1, h2⟩ := M_gcd (lN u) (lN d) w 10 u d BIG (by omega) (by omega) (by omega) (by decide)
  have hg : 0 < Nat.gcd u d := Nat.gcd_pos_of_pos_right u h0
  have hg2 : Nat.gcd u d ≤ d := Nat.le_of_dvd h0 (Nat.gcd_dvd_right u d)
  have hn : ¬ lN (Nat.gcd u d) = 0 := fun q => absurd ((lN_eq (a := Nat.gcd u d) (b := 0) (by omega) (by decide)).mp q) (by omega)
  rw [h1, bd_s, h2, ck_t hn, ck_t hn, pk_lDiv (by omega) hg (by omega), pk_lDiv (by omega) hg (by omega)]
  by_cases e : w = 0
  · rw [if_pos e, if_pos e]
  · rw [if_neg e, if_neg e]
theorem pow_le {n : Nat} (hn : n ≤ 5) : ∀ m, m ≤ 4 → n ^ m ≤ 625
  | 0, _ => by simp
  | 1, _ => by rw [Nat.pow_one]; omega
  | 2, _ => Nat.le_trans (Nat.pow_le_pow_left hn 2) (by decide)
  | 3, _ => Nat.le_trans (Nat.pow_le_pow_left hn 3) (by decide)
  | 4, _ => Nat.le_trans (Nat.pow_le_pow_left hn 4) (by decide)
  | m + 5, h => absurd h (by omega)
theorem X_pow {S : St} {D : HD} (h : XH S D) (g : GH D) {n : Nat} (hn : n ≤ 4) (w : Int32) : ∃ t, iter (fun q => i_X6_odds_37 S (nI n) w q.1 q.2) BIG ((1 : Int32), (0 : Int32)) = some t ∧ t.1 = nI (ns D ^ n) := by
  refine ⟨(nI (ns D ^ n), nI n), iter_to (fun i => (nI (ns D ^ i), nI i)) n (by rfl) (fun i hi => ?_) ?_ (by have := bigN; omega), rfl⟩
  · show i_X6_odds_37 S (nI n) w (nI (ns D ^ i)) (nI i) = _
    unfold i_X6_odds_37
    rw [if_neg (by rw [nle (by omega) (by omega)]; omega), h.2.1, pk_mul, nadd1, Nat.pow_succ]
  · show i_X6_odds_37 S (nI n) w (nI (ns D ^ n)) (nI n) = _
    unfold i_X6_odds_37
    rw [if_pos (by rw [nle (by omega) (by omega)]; omega)]
theorem M_pow {S : St} {D : HD} (h : MH S D) (g : GH D) {n : Nat} (hn : n ≤ 4) (w : Int32) : ∃ t, iter (fun q => i_X7_odds_34 S (nI n) w q.1 q.2) BIG ((1 : Int32), (0 : Int32)) = some t ∧ t.1 = nI (ns D ^ n) := by
  refine ⟨(nI (ns D ^ n), nI n), iter_to (fun i => (nI (ns D ^ i), nI i)) n (by rfl) (fun i hi => ?_) ?_ (by have := bigN; omega), rfl⟩
  · show i_X7_odds_34 S (nI n) w (nI (ns D ^ i)) (nI i) = _
    unfold i_X7_odds_34
    rw [if_neg (by rw [nle (by omega) (by omega)]; omega), h.2.1, pk_mul, nadd1, Nat.pow_succ]
  · show i_X7_odds_34 S (nI n) w (nI (ns D ^ n)) (nI n) = _
    unfold i_X7_odds_34
    rw [if_pos (by rw [nle (by omega) (by omega)]; omega)]
/-- the reference's state while it tries: only row 5 is another -/
def RM (D : HD) (S0 : St) (r : Nat → Nat) (S : St) : Prop := (∀ a, a ≠ 5 → S a = S0 a) ∧ ∀ l, l < nl D → S 5 l = nI (r l)
theorem fr_ok {D : HD} (g : GH D) : ∀ n {r : Nat → Nat} {num : Nat}, rok D r → rok D (fr D n r num)
  | 0, _, _, h => h
  | n + 1, _, _, _ => fr_ok g n (fun _ hl => prs_lt g hl)
theorem M_try {S0 : St} {D : HD} (hm0 : MH S0 D) (g : GH D) (h0 : 0 < ns D) {n : Nat} (hn : n ≤ 4) {r : Nat → Nat} (hb : rok D r) {num : Nat} (hnum : num < 1000) (x2 x3 x4 x5 : Int32) {S : St} (hS : RM D S0 r S) : ∃ t, iter (fun q => i_X7_odds_76 q.1 (nI n) x2 x3 x4 x5 q.2.1 q.2.2) BIG (S, nI num, (0 : Int32)) = some t ∧ RM D S0 (fr D n r num) t.1 := by
  have hs5 := g.2.1
  obtain ⟨t, h1, h2⟩ := iter_rel (it := fun q => i_X7_odds_76 q.1 (nI n) x2 x3 x4 x5 q.2.1 q.2.2) (fun k q => q.2.2 = nI k ∧ ∃ row rt, rt < 1000 ∧ q.2.1 = nI rt ∧ rok D row ∧ RM D S0 row q.1 ∧ fr D (n - k) row rt = fr D n r num) (fun t => RM D S0 (fr D n r num) t.1) n (by
    rintro k ⟨S1, y, x⟩ hk ⟨rfl, row, rt, hrt, rfl, hrow, hR, he⟩
    have hR : RM D S0 row S1 := hR
    have hm1 : MH S1 D := hm0.fr (by rw [hR.1 0 (by decide)]) (by rw [hR.1 0 (by decide)]) (fun a ha => hR.1 a (by omega))
    have hd := Nat.mod_lt rt h0
    have e : f_X7_turnsAll S1 (nI (rt % ns D)) (1 : Int32) = some (fill S1 5 (nl D) (fun l => nI (prs D (rt % ns D) 1 row l))) := M_turns (n := 1) hm1 g hd hR.2 hrow (by decide)
    have hdiv : rt / ns D ≤ rt := Nat.div_le_self _ _
    refine ⟨(fill S1 5 (nl D) (fun l => nI (prs D (rt % ns D) 1 row l)), nI (rt / ns D), nI (k + 1)), ?_, rfl, prs D (rt % ns D) 1 row, rt / ns D, by omega, rfl, fun l hl => prs_lt g hl, ⟨fun a ha => (fill_ne _ _ _ _ ha).trans (hR.1 a ha), fun l hl => fill_lo (S := S1) (k := 5) (f := fun l => nI (prs D (rt % ns D) 1 row l)) hl⟩, ?_⟩
    · show i_X7_odds_76 S1 (nI n) x2 x3 x4 x5 (nI rt) (nI k) = _
      unfold i_X7_odds_76
      rw [if_neg (by rw [nle (by omega) (by omega)]; omega), hm1.2.1, ck_t (nI_ne0 h0 (by omega)), show rem32 (nI rt) (nI (ns D)) = nI (rt % ns D) from pk_rem (by omega) h0 (by omega), e, bd_s, fill_ne _ _ _ _ (show 0 ≠ 5 by decide), hm1.2.1, ck_t (nI_ne0 h0 (by omega)), pk_div (by omega) h0 (by omega), nadd1]
    · rw [← he, show n - k = (n - (k + 1)) + 1 by omega]
      rfl) (by
    rintro ⟨S1, y, x⟩ ⟨rfl, row, rt, hrt, rfl, hrow, hR, he⟩
    refine ⟨(S1, nI rt, nI n), ?_, ?_⟩
    · show i_X7_odds_76 S1 (nI n) x2 x3 x4 x5 (nI rt) (nI n) = _
      unfold i_X7_odds_76
      rw [if_pos (by rw [nle (by omega) (by omega)]; omega)]
    · rw [Nat.sub_self] at he
      rw [← he]
      exact hR) (S, nI num, (0 : Int32)) ⟨rfl, r, num, hnum, rfl, hb, hS, by rw [Nat.sub_zero]⟩ (by have := bigN; omega)
  exact ⟨t, h1, h2⟩
theorem M_count {S0 : St} {D : HD} (hm0 : MH S0 D) (g : GH D) (h0 : 0 < ns D) {n : Nat} (hn : n ≤ 4) {r : Nat → Nat} (hb : rok D r) (h12 : ∀ l, l < nl D → S0 12 l = nI (r l)) (h5 : ∀ l, l < nl D → S0 5 l = nI (r l)) (x2 : Int32) : ∃ t, iter (fun q => i_X7_odds_63 q.1 (nI n) x2 (nI (ns D ^ n)) q.2.1 q.2.2) BIG (S0, (0 : Int32), (0 : Int32)) = some t ∧ t.2.1 = nI (cw D n r) ∧ RM D S0 r t.1 := by
  have hs5 := g.2.1
  have hl5 := g.1
  have hp := pow_le hs5 n hn
  obtain ⟨t, h1, h2⟩ := iter_rel (it := fun q => i_X7_odds_63 q.1 (nI n) x2 (nI (ns D ^ n)) q.2.1 q.2.2) (fun k q => q.2.2 = nI k ∧ q.2.1 = nI (sumN (fun num => dkb D (fr D n r num)) k) ∧ RM D S0 r q.1) (fun t => t.2.1 = nI (cw D n r) ∧ RM D S0 r t.1) (ns D ^ n) (by
    rintro k ⟨S1, y, x⟩ hk ⟨rfl, rfl, hR⟩
    have hR : RM D S0 r S1 := hR
    obtain ⟨u, e1, e2⟩ := M_try hm0 g h0 hn hb (num := k) (by omega) x2 (nI (ns D ^ n)) (nI (sumN (fun num => dkb D (fr D n r num)) k)) (nI k) hR
    have hmu : MH u.1 D := hm0.fr (by rw [e2.1 0 (by decide)]) (by rw [e2.1 0 (by decide)]) (fun a ha => e2.1 a (by omega))
    have hdk := dk_le (D := D) (fr D n r k)
    have hpb : ∀ l, l < nl D → fill u.1 5 (nl D) (fun l => u.1 12 l) 5 l = nI (r l) := fun l hl => by rw [fill_lo hl, e2.1 12 (by decide)]; exact h12 l hl
    refine ⟨(fill u.1 5 (nl D) (fun l => u.1 12 l), nI (sumN (fun num => dkb D (fr D n r num)) (k + 1)), nI (k + 1)), ?_, rfl, rfl, fun a ha => (fill_ne _ _ _ _ ha).trans (e2.1 a ha), hpb⟩
    show i_X7_odds_63 S1 (nI n) x2 (nI (ns D ^ n)) (nI (sumN (fun num => dkb D (fr D n r num)) k)) (nI k) = _
    unfold i_X7_odds_63
    rw [if_neg (by rw [nle (by omega) (by omega)]; omega), e1, bd_s, M_dark hmu g e2.2 (fr_ok g n hb), bd_s, hmu.1, M_putBack hmu g]
    simp only [bd_s, nadd1, sumN]
    by_cases e : dk D (fr D n r k) = nl D
    · rw [if_pos (by rw [e]), show dkb D (fr D n r k) = 1 from if_pos e]
    · rw [if_neg (show ¬ nI (dk D (fr D n r k)) = nI (nl D) by rw [neq (by omega) (by omega)]; exact e), show dkb D (fr D n r k) = 0 from if_neg e, add0]
      rfl) (by
    rintro ⟨S1, y, x⟩ ⟨rfl, rfl, hR⟩
    refine ⟨(S1, nI (sumN (fun num => dkb D (fr D n r num)) (ns D ^ n)), nI (ns D ^ n)), ?_, ?_, hR⟩
    · show i_X7_odds_63 S1 (nI n) x2 (nI (ns D ^ n)) (nI (sumN (fun num => dkb D (fr D n r num)) (ns D ^ n))) (nI (ns D ^ n)) = _
      unfold i_X7_odds_63
      rw [if_pos (by rw [nle (by omega) (by omega)]; omega)]
    · show nI (sumN (fun num => dkb D (fr D n r num)) (ns D ^ n)) = _
      rw [cw_sum D h0]) (S0, (0 : Int32), (0 : Int32)) ⟨rfl, rfl, fun _ _ => rfl, h5⟩ (Nat.lt_of_le_of_lt hp (by decide))
  exact ⟨t, h1, h2⟩
theorem sim_odds : Sim_odds Inv := by
  intro Sx Sm a0 a1 h
  obtain ⟨D, nw, nr, rs, rl, hI⟩ := id h
  obtain ⟨h1, h2, h3, h4, h5, h6, h7⟩ := id hI
  obtain ⟨g, hx, hm, hg⟩ := id h1
  have hn5 := g.1
  have hs5 := g.2.1
  unfold f_X6_odds f_X7_odds
  rw [X_in, M_in, bd_s, bd_s]
  by_cases c1 : inB a0 0 4 = false
  · rw [if_pos c1, if_pos c1]
    exact ⟨_, Sx, Sm, rfl, rfl, h⟩
  rw [if_neg c1, if_neg c1, X_in, M_in, bd_s, bd_s]
  by_cases c2 : inB a1 0 1 = false
  · rw [if_pos c2, if_pos c2]
    exact ⟨_, Sx, Sm, rfl, rfl, h⟩
  rw [if_neg c2, if_neg c2]
  unfold f_X1_isMissing
  rw [hx.1, hm.1]
  by_cases c3 : nl D = 0
  · rw [c3, if_pos (show nI 0 = (0 : Int32) from rfl), if_pos (show nI 0 = (0 : Int32) from rfl), bd_s, if_neg (by decide)]
    exact ⟨_, Sx, Sm, rfl, rfl, h⟩
  have c3' : ¬ nI (nl D) = (0 : Int32) := nI_ne0 (by omega) (by omega)
  rw [if_neg c3', if_neg c3', bd_s, if_pos rfl]
  obtain ⟨n, hn, rfl⟩ := inB_n (n := 4) (by decide) (show inB a0 0 (nI 4) = true from (show inB a0 0 4 = true by simpa using c1))
  have h0 : 0 < ns D := hg (by omega)
  have hp := pow_le hs5 n hn
  have hp0 : 0 < ns D ^ n := Nat.pow_pos h0
  have hrk : rok D nw := fun l hl => (h2 l hl).2.2
  obtain ⟨t, t1, t2⟩ := X_pow hx g hn a1
  obtain ⟨u, u1, u2⟩ := M_pow hm g hn a1
  rw [t1, u1, bd_s, bd_s, ck_t (by decide), show ix (0 : Int32) = 0 from rfl, show ix (5 : Int32) = 5 from rfl, M_keep hm g, bd_s, t2, u2]
  generalize hX1 : va_up Sx 21 (va_cpy (Sx 23) (Sx 21) 0 0 5) = X1
  have x1 : ∀ a, a ≠ 21 → X1 a = Sx a := fun a ha => by rw [← hX1]; unfold va_up; rw [if_neg ha]
  have x21 : ∀ l, l < nl D → X1 21 l = nI (nw l) := fun l hl => by
    rw [← hX1]
    unfold va_up va_cpy
    rw [if_pos rfl, if_pos (by omega), Nat.zero_add, Nat.sub_zero]
    exact (h2 l hl).1
  have hxx : XH X1 D := hx.fr (fun a ha => x1 a (by omega))
  obtain ⟨X2, e1, e2⟩ := X_rows_5 g n (by omega) hn X1 nw hxx x21 hrk
  have hcw := cw_le D n nw
  have hgcd : 0 < Nat.gcd (ns D ^ n) (cw D n nw) := Nat.gcd_pos_of_pos_left _ hp0
  have hgle : Nat.gcd (ns D ^ n) (cw D n nw) ≤ ns D ^ n := Nat.le_of_dvd hp0 (Nat.gcd_dvd_left _ _)
  have hgn : ¬ nI (Nat.gcd (ns D ^ n) (cw D n nw)) = 0 := nI_ne0 hgcd (by omega)
  generalize hM1 : fill Sm 12 (nl D) (fun l => Sm 5 l) = M1
  have m1 : ∀ a, a ≠ 12 → M1 a = Sm a := fun a ha => by rw [← hM1]; exact fill_ne _ _ _ _ ha
  have m12 : ∀ l, l < nl D → M1 12 l = nI (nw l) := fun l hl => by rw [← hM1, fill_lo hl]; exact (h2 l hl).2.1
  have hmm : MH M1 D := hm.fr (by rw [m1 0 (by decide)]) (by rw [m1 0 (by decide)]) (fun a ha => m1 a (by omega))
  obtain ⟨v, v1, v2, v3⟩ := M_count hmm g h0 hn hrk m12 (fun l hl => by rw [m1 5 (by decide)]; exact (h2 l hl).2.1) a1
  rw [e1, bd_s, v1, bd_s]
  dsimp only
  rw [v2, X_common (by omega) (by omega), bd_s, if_neg hgn, ck_t hgn, ck_t hgn, nI_l (by omega), nI_l (by omega), M_least (by omega) (by omega) hp0, bd_s, pk_div (by omega) hgcd (by omega), pk_div (by omega) hgcd (by omega), nI_l (Nat.lt_of_le_of_lt (Nat.div_le_self _ _) (by omega)), nI_l (Nat.lt_of_le_of_lt (Nat.div_le_self _ _) (by omega)), Nat.gcd_comm (cw D n nw)]
  have hI' : Inv X2 v.1 := by
    refine ⟨D, nw, nr, rs, rl, ?_⟩
    have ex : ∀ a, a ≠ 21 → X2 a = Sx a := fun a ha => by rw [e2.1 a ha, x1 a ha]
    have em : ∀ a, a ≠ 5 → a ≠ 12 → v.1 a = Sm a := fun a q1 q2 => by rw [v3.1 a q1, m1 a q2]
    have y0 := ex 0 (by decide)
    have z0 := em 0 (by decide) (by decide)
    exact ⟨h1.fr (fun a ha => ex a (by omega)) (by rw [z0]) (by rw [z0]) (fun a ha => em a (by omega) (by omega)), fun l hl => ⟨by rw [ex 23 (by decide)]; exact (h2 l hl).1, v3.2 l hl, (h2 l hl).2.2⟩, h3.fr (ex 27 (by decide)) (em 9 (by decide) (by decide)) (by rw [z0]), h4.fr (by rw [y0]) (by rw [y0]) (by rw [z0]) (by rw [z0]), h5.fr (by rw [ex 4 (by decide)]) (fun a ha => ex a (by omega)) (by rw [z0]) (fun a ha => em a (by omega) (by omega)), h6.fr (fun a q1 q2 => ex a (by omega)) (fun a ha => em a (by omega) (by omega)), h7.fr (fun a ha => ex a (by omega)) g⟩
  by_cases e : a1 = 0
  · rw [if_pos e, if_pos e]
    exact ⟨_, _, _, rfl, rfl, hI'⟩
  · rw [if_neg e, if_neg e]
    exact ⟨_, _, _, rfl, rfl, hI'⟩
