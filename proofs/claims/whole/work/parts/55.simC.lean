/-! readings; what they leave open -/
theorem sim_reading : Sim_reading Inv := by
  intro Sx Sm a0 a1 a2 h
  obtain ⟨D, nw, nr, rs, rl, hI⟩ := id h
  obtain ⟨h1, h2, h3, h4, h5, h6, h7⟩ := id hI
  obtain ⟨g, hx, hm, hg⟩ := id h1
  have hs5 := g.2.1
  have hl5 := g.1
  have hn8 := h5.1
  unfold f_X6_reading f_X7_reading
  rcases nix2 a0 (n := ns D) (by omega) with ha | ⟨j, hj, rfl⟩
  · rw [X_sw0 hx ha, M_sw0 hm ha, bd_s, bd_s, if_pos rfl, if_pos rfl]
    exact ⟨_, Sx, Sm, rfl, rfl, h⟩
  rw [X_sw1 hx g hj, M_sw1 hm g hj, bd_s, bd_s, if_neg (by decide), if_neg (by decide)]
  rcases nix2 a1 (n := nl D) (by omega) with ha | ⟨i, hi, rfl⟩
  · rw [X_lamp0 hx ha, M_lamp0 hm ha, bd_s, bd_s, if_neg (by decide), if_neg (by decide)]
    exact ⟨_, Sx, Sm, rfl, rfl, h⟩
  rw [X_lamp1 hx g hi, M_lamp1 hm g hi, bd_s, bd_s, if_pos rfl, if_pos rfl, X_in, M_in, bd_s, bd_s]
  by_cases hv : inB a2 0 4 = true
  · rw [hv, if_pos rfl, if_pos rfl]
    unfold f_X3_add
    have e33 : ∀ (S : St) (k : Nat) (v : Int32), up S 33 k v 4 0 = S 4 0 := fun S k v => by rw [up_ne _ _ _ _ (by decide)]
    have e34 : ∀ (S : St) (k : Nat) (v : Int32), up S 34 k v 4 0 = S 4 0 := fun S k v => by rw [up_ne _ _ _ _ (by decide)]
    have e35 : ∀ (S : St) (k : Nat) (v : Int32), up S 35 k v 4 0 = S 4 0 := fun S k v => by rw [up_ne _ _ _ _ (by decide)]
    have e15 : ∀ (S : St) (k : Nat) (v : Int32), up S 15 k v 0 24 = S 0 24 := fun S k v => by rw [up_ne _ _ _ _ (by decide)]
    have e16 : ∀ (S : St) (k : Nat) (v : Int32), up S 16 k v 0 24 = S 0 24 := fun S k v => by rw [up_ne _ _ _ _ (by decide)]
    have e17 : ∀ (S : St) (k : Nat) (v : Int32), up S 17 k v 0 24 = S 0 24 := fun S k v => by rw [up_ne _ _ _ _ (by decide)]
    have u1 : ∀ (S : St) (v : Int32), up S 4 0 v 4 0 = v := fun S v => by rw [up_ap, if_pos rfl, if_pos rfl]
    have u2 : ∀ (S : St) (v : Int32), up S 0 24 v 0 24 = v := fun S v => by rw [up_ap, if_pos rfl, if_pos rfl]
    simp only [e33, e34, e35, e15, e16, e17, u1, u2, h5.2.1, h5.2.2.1, if_neg (nnot0 (a := nr) (by omega)), ixn (j := nr) (by omega)]
    by_cases h8 : nr = 8
    · rw [if_neg (show ¬ nI nr < (8 : Int32) by rw [n8, nlt (by omega) (by decide)]; omega), if_pos (show nI nr = (8 : Int32) by rw [h8]; rfl), bd_s]
      exact ⟨_, Sx, Sm, rfl, rfl, h⟩
    · rw [if_pos (show nI nr < (8 : Int32) by rw [n8, nlt (by omega) (by decide)]; omega), if_neg (show ¬ nI nr = (8 : Int32) by rw [n8, neq (by omega) (by decide)]; omega)]
      simp only [ck_t (okn (j := nr) (n := 8) (by omega) (by decide)), bd_s, nadd1]
      refine ⟨_, _, _, rfl, rfl, D, nw, nr + 1, (fun q => if q = nr then j else rs q), (fun q => if q = nr then i else rl q), ?_⟩
      have ex : ∀ a, a ≠ 4 → a ≠ 33 → a ≠ 34 → a ≠ 35 → up (up (up (up Sx 33 nr (nI j)) 34 nr (nI i)) 35 nr a2) 4 0 (nI (nr + 1)) a = Sx a := fun a q1 q2 q3 q4 => by rw [up_ne _ _ _ _ q1, up_ne _ _ _ _ q4, up_ne _ _ _ _ q3, up_ne _ _ _ _ q2]
      have em : ∀ a, a ≠ 0 → a ≠ 15 → a ≠ 16 → a ≠ 17 → up (up (up (up Sm 15 nr (nI j)) 16 nr (nI i)) 17 nr a2) 0 24 (nI (nr + 1)) a = Sm a := fun a q1 q2 q3 q4 => by rw [up_ne _ _ _ _ q1, up_ne _ _ _ _ q4, up_ne _ _ _ _ q3, up_ne _ _ _ _ q2]
      have em0 : ∀ b, b ≠ 24 → up (up (up (up Sm 15 nr (nI j)) 16 nr (nI i)) 17 nr a2) 0 24 (nI (nr + 1)) 0 b = Sm 0 b := fun b hb => by rw [up_ap, if_pos rfl, if_neg hb, up_ne _ _ _ _ (by decide), up_ne _ _ _ _ (by decide), up_ne _ _ _ _ (by decide)]
      have x0 := ex 0 (by decide) (by decide) (by decide) (by decide)
      refine ⟨h1.fr (fun a ha => ex a (by omega) (by omega) (by omega) (by omega)) (em0 5 (by decide)) (em0 6 (by decide)) (fun a ha => em a (by omega) (by omega) (by omega) (by omega)), h2.fr (ex 23 (by decide) (by decide) (by decide) (by decide)) (em 5 (by decide) (by decide) (by decide) (by decide)), h3.fr (ex 27 (by decide) (by decide) (by decide) (by decide)) (em 9 (by decide) (by decide) (by decide) (by decide)) (em0 7 (by decide)), h4.fr (by rw [x0]) (by rw [x0]) (em0 0 (by decide)) (em0 1 (by decide)), ⟨by omega, u1 _ _, u2 _ _, fun q hq => ?_⟩, h6.fr (fun a q1 q2 => ex a (by omega) (by omega) (by omega) (by omega)) (fun a ha => em a (by omega) (by omega) (by omega) (by omega)), h7.fr (fun a ha => ex a (by omega) (by omega) (by omega) (by omega)) g⟩
      have x33 : up (up (up (up Sx 33 nr (nI j)) 34 nr (nI i)) 35 nr a2) 4 0 (nI (nr + 1)) 33 q = if q = nr then nI j else Sx 33 q := by rw [up_ne _ 4 _ _ (by decide), up_ne _ 35 _ _ (by decide), up_ne _ 34 _ _ (by decide), up_ap, if_pos rfl]
      have x34 : up (up (up (up Sx 33 nr (nI j)) 34 nr (nI i)) 35 nr a2) 4 0 (nI (nr + 1)) 34 q = if q = nr then nI i else Sx 34 q := by rw [up_ne _ 4 _ _ (by decide), up_ne _ 35 _ _ (by decide), up_ap, if_pos rfl, up_ne _ _ _ _ (by decide)]
      have x35 : up (up (up (up Sx 33 nr (nI j)) 34 nr (nI i)) 35 nr a2) 4 0 (nI (nr + 1)) 35 q = if q = nr then a2 else Sx 35 q := by rw [up_ne _ 4 _ _ (by decide), up_ap, if_pos rfl, up_ne _ _ _ _ (by decide), up_ne _ _ _ _ (by decide)]
      have m15 : up (up (up (up Sm 15 nr (nI j)) 16 nr (nI i)) 17 nr a2) 0 24 (nI (nr + 1)) 15 q = if q = nr then nI j else Sm 15 q := by rw [up_ne _ 0 _ _ (by decide), up_ne _ 17 _ _ (by decide), up_ne _ 16 _ _ (by decide), up_ap, if_pos rfl]
      have m16 : up (up (up (up Sm 15 nr (nI j)) 16 nr (nI i)) 17 nr a2) 0 24 (nI (nr + 1)) 16 q = if q = nr then nI i else Sm 16 q := by rw [up_ne _ 0 _ _ (by decide), up_ne _ 17 _ _ (by decide), up_ap, if_pos rfl, up_ne _ _ _ _ (by decide)]
      have m17 : up (up (up (up Sm 15 nr (nI j)) 16 nr (nI i)) 17 nr a2) 0 24 (nI (nr + 1)) 17 q = if q = nr then a2 else Sm 17 q := by rw [up_ne _ 0 _ _ (by decide), up_ap, if_pos rfl, up_ne _ _ _ _ (by decide), up_ne _ _ _ _ (by decide)]
      rw [x33, x34, x35, m15, m16, m17]
      by_cases e : q = nr
      · simp only [if_pos e]
        exact ⟨⟨trivial, trivial, hj⟩, ⟨trivial, trivial, hi⟩, trivial⟩
      · simp only [if_neg e]
        exact h5.2.2.2 q (by omega)
  · rw [if_neg hv, if_neg hv]
    exact ⟨_, Sx, Sm, rfl, rfl, h⟩
theorem sim_back : Sim_back Inv := by
  intro Sx Sm a0 h
  obtain ⟨D, nw, nr, rs, rl, hI⟩ := id h
  obtain ⟨h1, h2, h3, h4, h5, h6, h7⟩ := id hI
  have hn8 := h5.1
  unfold f_X6_back f_X7_back
  rw [X_in, M_in, bd_s, bd_s, h5.2.1, h5.2.2.1]
  by_cases hv : inB a0 0 (nI nr) = true
  · rw [hv, if_pos rfl, if_pos rfl]
    obtain ⟨n, hn, rfl⟩ := inB_n (by omega) hv
    rw [pk_sub hn]
    have u1 : ∀ (S : St) (v : Int32), up S 4 0 v 4 0 = v := fun S v => by rw [up_ap, if_pos rfl, if_pos rfl]
    have u2 : ∀ (S : St) (v : Int32), up S 0 24 v 0 24 = v := fun S v => by rw [up_ap, if_pos rfl, if_pos rfl]
    rw [u1, u2]
    refine ⟨_, _, _, rfl, rfl, D, nw, nr - n, rs, rl, ?_⟩
    have ex : ∀ a, a ≠ 4 → up Sx 4 0 (nI (nr - n)) a = Sx a := fun a q => up_ne _ _ _ _ q
    have em : ∀ a, a ≠ 0 → up Sm 0 24 (nI (nr - n)) a = Sm a := fun a q => up_ne _ _ _ _ q
    have em0 : ∀ b, b ≠ 24 → up Sm 0 24 (nI (nr - n)) 0 b = Sm 0 b := fun b hb => by rw [up_ap, if_pos rfl, if_neg hb]
    refine ⟨h1.fr (fun a ha => ex a (by omega)) (em0 5 (by decide)) (em0 6 (by decide)) (fun a ha => em a (by omega)), h2.fr (ex 23 (by decide)) (em 5 (by decide)), h3.fr (ex 27 (by decide)) (em 9 (by decide)) (em0 7 (by decide)), h4.fr (by rw [ex 0 (by decide)]) (by rw [ex 0 (by decide)]) (em0 0 (by decide)) (em0 1 (by decide)), ⟨by omega, u1 _ _, u2 _ _, fun q hq => ?_⟩, h6.fr (fun a q1 q2 => ex a (by omega)) (fun a ha => em a (by omega)), h7.fr (fun a ha => ex a (by omega)) h1.1⟩
    rw [ex 33 (by decide), ex 34 (by decide), ex 35 (by decide), em 15 (by decide), em 16 (by decide), em 17 (by decide)]
    exact h5.2.2.2 q (by omega)
  · rw [if_neg hv, if_neg hv]
    exact ⟨_, Sx, Sm, rfl, rfl, h⟩
/-! whether all readings are so -/
def soP (D : HD) (rs rl : Nat → Nat) (sn : Nat → Int32) (q : Nat) : Prop := nI (stp D (rs q) (rl q)) = sn q
noncomputable def soB (D : HD) (nr : Nat) (rs rl : Nat → Nat) (sn : Nat → Int32) : Bool := @decide (∀ q, q < nr → soP D rs rl sn q) (Classical.propDecidable _)
theorem soB_t {D : HD} {nr : Nat} {rs rl : Nat → Nat} {sn : Nat → Int32} (h : ∀ q, q < nr → soP D rs rl sn q) : soB D nr rs rl sn = true := by unfold soB; exact @decide_eq_true _ (Classical.propDecidable _) h
theorem soB_f {D : HD} {nr : Nat} {rs rl : Nat → Nat} {sn : Nat → Int32} (h : ¬ ∀ q, q < nr → soP D rs rl sn q) : soB D nr rs rl sn = false := by unfold soB; exact @decide_eq_false _ (Classical.propDecidable _) h
theorem soB_cong {D : HD} {nr : Nat} {rs rl : Nat → Nat} {sn sn' : Nat → Int32} (h : ∀ q, q < nr → sn q = sn' q) : soB D nr rs rl sn = soB D nr rs rl sn' := by
  by_cases hh : ∀ q, q < nr → soP D rs rl sn q
  · rw [soB_t hh, soB_t (fun q hq => by have := hh q hq; unfold soP at this ⊢; rw [← h q hq]; exact this)]
  · rw [soB_f hh, soB_f (fun k => hh (fun q hq => by have := k q hq; unfold soP at this ⊢; rw [h q hq]; exact this))]
theorem X_areSo {S : St} {D : HD} (h : XH S D) (g : GH D) {nr : Nat} {rs rl : Nat → Nat} (hn : nr ≤ 8) (e0 : S 4 0 = nI nr) (e1 : ∀ q, q < nr → S 33 q = nI (rs q) ∧ rs q < ns D ∧ S 34 q = nI (rl q) ∧ rl q < nl D) : f_X3_areSo S = some (soB D nr rs rl (S 35)) := by
  have st : ∀ q, q < nr → (soP D rs rl (S 35) q → i_X3_areSo_2 S (nI q) = some (.inl (nI (q + 1)))) ∧ (¬ soP D rs rl (S 35) q → i_X3_areSo_2 S (nI q) = some (.inr (.inr false))) := by
    intro q hq
    obtain ⟨a1, a2, a3, a4⟩ := e1 q hq
    unfold i_X3_areSo_2
    rw [e0, if_neg (by rw [nle (by omega) (by omega)]; omega)]
    simp only [ck_t (okn (j := q) (n := 8) (by omega) (by decide)), ixn (j := q) (by omega), a1, a3, X_step h g a2 a4, bd_s, nadd1]
    exact ⟨fun hs => if_pos hs, fun hs => if_neg hs⟩
  unfold f_X3_areSo
  by_cases hall : ∀ q, q < nr → soP D rs rl (S 35) q
  · rw [iter_to (fun i => nI i) nr (t := .inl (nI nr)) (by rfl), bd_s, sm_i, soB_t hall]
    · exact fun i hi => (st i hi).1 (hall i hi)
    · show i_X3_areSo_2 S (nI nr) = _
      unfold i_X3_areSo_2
      rw [e0, if_pos (by rw [nle (by omega) (by omega)]; omega)]
    · have := bigN; omega
  · obtain ⟨k, ⟨hk1, hk2⟩, hk3⟩ := pk_least (fun q => q < nr ∧ ¬ soP D rs rl (S 35) q) (by
      simp only [Classical.not_forall] at hall
      obtain ⟨q, hq, hs⟩ := hall
      exact ⟨q, hq, hs⟩)
    rw [iter_to (fun i => nI i) k (t := .inr false) (by rfl), bd_s, sm_o, soB_f hall]
    · intro i hi
      exact (st i (by omega)).1 (Classical.byContradiction fun hc => hk3 i hi ⟨by omega, hc⟩)
    · exact (st k hk1).2 hk2
    · have := bigN; omega
theorem M_areSo {S : St} {D : HD} (h : MH S D) (g : GH D) {nr : Nat} {rs rl : Nat → Nat} (hn : nr ≤ 8) (e0 : S 0 24 = nI nr) (e1 : ∀ q, q < nr → S 15 q = nI (rs q) ∧ rs q < ns D ∧ S 16 q = nI (rl q) ∧ rl q < nl D) : f_X7_areSo S = some (soB D nr rs rl (S 17)) := by
  have h5 := g.1
  have hs5 := g.2.1
  have st : ∀ q, q < nr → (soP D rs rl (S 17) q → i_X7_areSo_2 S (nI q) = some (.inl (nI (q + 1)))) ∧ (¬ soP D rs rl (S 17) q → i_X7_areSo_2 S (nI q) = some (.inr (.inr false))) := by
    intro q hq
    obtain ⟨a1, a2, a3, a4⟩ := e1 q hq
    have hsh := g.2.2.1 (rl q) a4
    have hmo := mo_le g a2
    unfold i_X7_areSo_2 j_X7_areSo_53
    rw [e0, if_neg (by rw [nle (by omega) (by omega)]; omega)]
    simp only [ck_t (okn (j := q) (n := 8) (by omega) (by decide)), ixn (j := q) (by omega), a1, a3, ck_t (okn (j := rs q) (n := 5) (by omega) (by decide)), ixn (j := rs q) (by omega), (h.2.2.2 (rs q) a2).2.2, M_isOf (g.2.2.2 (rs q) a2).2.2.2 (show rl q < 5 by omega), M_moves h g a2, bd_s, nadd1, ck_t (okn (j := rl q) (n := 5) (by omega) (by decide)), ixn (j := rl q) (by omega), h.2.2.1 (rl q) a4, ck_t (show ¬ nI (sh D (rl q)) = 0 from nI_ne0 (by omega) (by omega)), show rem32 (nI (mo D (rs q))) (nI (sh D (rl q))) = nI (mo D (rs q) % sh D (rl q)) from pk_rem (by omega) (by omega) (by omega)]
    unfold soP stp
    by_cases hb : (wr D (rs q)).testBit (rl q) = true
    · simp only [hb, if_neg (show ¬ true = false by decide), if_pos (show true = true from rfl)]
      exact ⟨fun hs => if_pos hs, fun hs => if_neg hs⟩
    · simp only [Bool.not_eq_true] at hb
      simp only [hb, if_pos (show false = false from rfl), if_neg (show ¬ false = true by decide)]
      exact ⟨fun hs => if_pos hs, fun hs => if_neg hs⟩
  unfold f_X7_areSo
  by_cases hall : ∀ q, q < nr → soP D rs rl (S 17) q
  · rw [iter_to (fun i => nI i) nr (t := .inl (nI nr)) (by rfl), bd_s, sm_i, soB_t hall]
    · exact fun i hi => (st i hi).1 (hall i hi)
    · show i_X7_areSo_2 S (nI nr) = _
      unfold i_X7_areSo_2
      rw [e0, if_pos (by rw [nle (by omega) (by omega)]; omega)]
    · have := bigN; omega
  · obtain ⟨k, ⟨hk1, hk2⟩, hk3⟩ := pk_least (fun q => q < nr ∧ ¬ soP D rs rl (S 17) q) (by
      simp only [Classical.not_forall] at hall
      obtain ⟨q, hq, hs⟩ := hall
      exact ⟨q, hq, hs⟩)
    rw [iter_to (fun i => nI i) k (t := .inr false) (by rfl), bd_s, sm_o, soB_f hall]
    · intro i hi
      exact (st i (by omega)).1 (Classical.byContradiction fun hc => hk3 i hi ⟨by omega, hc⟩)
    · exact (st k hk1).2 hk2
    · have := bigN; omega
def fitI (so : Nat → Bool) (lo : Nat) : Nat → Int32
  | 0 => 0
  | i + 1 => if so (lo + i) then fitI so lo i ||| shl32 1 (nI (lo + i)) else fitI so lo i
theorem fitI_cong {so so' : Nat → Bool} {lo : Nat} : ∀ {n : Nat}, (∀ i, i < n → so (lo + i) = so' (lo + i)) → fitI so lo n = fitI so' lo n
  | 0, _ => rfl
  | n + 1, h => by rw [fitI, fitI, h n (by omega), fitI_cong (fun i hi => h i (by omega))]
theorem up_up (S : St) (k j : Nat) (v w : Int32) : up (up S k j v) k j w = up S k j w := by
  funext a b
  rw [up_ap, up_ap, up_ap, up_ap]
  by_cases ha : a = k
  · simp only [if_pos ha, if_pos]
    by_cases hb : b = j <;> simp [hb]
  · simp only [if_neg ha]
theorem up_self (S : St) (k j : Nat) : up S k j (S k j) = S := by
  funext a b
  rw [up_ap]
  by_cases ha : a = k
  · rw [if_pos ha]
    by_cases hb : b = j
    · rw [if_pos hb, ha, hb]
    · rw [if_neg hb, ha]
  · rw [if_neg ha]
theorem X_fitting {S : St} {k j lo n : Nat} (hk : arX k) (hk2 : lenX k = 5) (hj : j < 5) (hlo : lo + n < 100) (so : Nat → Bool) (hso : ∀ i, i < n → f_X3_areSo (up S k j (nI (lo + i))) = some (so (lo + i))) (hn : 1 ≤ n) : f_X6_fitting S k (nI j) (nI lo) (nI (lo + n - 1)) = some (fitI so lo n, S) := by
  unfold f_X6_fitting
  rw [ck_t hk, hk2, ck_t (okn (by omega) (by decide)), ixn (by omega)]
  rw [iter_to (fun i => ((if i = 0 then S else up S k j (nI (lo + i - 1))), fitI so lo i, nI (lo + i))) n (t := (up S k j (nI (lo + n - 1)), fitI so lo n, nI (lo + n))) (by rfl), bd_s, ck_t (okn (by omega) (by decide)), up_up, up_self]
  · intro i hi
    show i_X6_fitting_11 (if i = 0 then S else up S k j (nI (lo + i - 1))) k (nI j) (nI (lo + n - 1)) (S k j) (fitI so lo i) (nI (lo + i)) = _
    have e : up (if i = 0 then S else up S k j (nI (lo + i - 1))) k j (nI (lo + i)) = up S k j (nI (lo + i)) := by
      split
      · rfl
      · rw [up_up]
    unfold i_X6_fitting_11
    rw [if_neg (by rw [nlt (by omega) (by omega)]; omega), hk2, ck_t (okn (by omega) (by decide)), ixn (by omega), e, hso i hi, bd_s, nadd1, fitI]
    show _ = some (Sum.inl ((if i + 1 = 0 then S else up S k j (nI (lo + (i + 1) - 1))), (if so (lo + i) then fitI so lo i ||| shl32 1 (nI (lo + i)) else fitI so lo i), nI (lo + (i + 1))))
    rw [if_neg (show ¬ i + 1 = 0 by omega), show lo + (i + 1) - 1 = lo + i by omega, show lo + i + 1 = lo + (i + 1) by omega]
    by_cases hb : so (lo + i) = true
    · rw [hb, if_neg (by decide), if_pos rfl]
    · simp only [Bool.not_eq_true] at hb
      rw [hb, if_pos rfl, if_neg (by decide)]
  · show i_X6_fitting_11 (if n = 0 then S else up S k j (nI (lo + n - 1))) k (nI j) (nI (lo + n - 1)) (S k j) (fitI so lo n) (nI (lo + n)) = _
    unfold i_X6_fitting_11
    rw [if_pos (by rw [nlt (by omega) (by omega)]; omega), if_neg (by omega)]
  · have := bigN; omega
theorem M_turnings {S : St} {D : HD} (h : MH S D) (g : GH D) {j : Nat} (hj : j < ns D) (so : Nat → Bool) (hso : ∀ i, i < 4 → f_X7_areSo (up S 7 j (nI (1 + i))) = some (so (1 + i))) : f_X7_turnings S (nI j) = some (fitI so 1 4, S) := by
  have h5 := g.1
  have hs5 := g.2.1
  unfold f_X7_turnings
  rw [M_sw1 h g hj, bd_s, if_pos rfl, ck_t (okn (by omega) (by decide)), ixn (by omega)]
  rw [iter_to (fun i => ((if i = 0 then S else up S 7 j (nI (1 + i - 1))), fitI so 1 i, nI (1 + i))) 4 (t := (up S 7 j (nI (1 + 4 - 1)), fitI so 1 4, nI (1 + 4))) (by rfl), bd_s, ck_t (okn (by omega) (by decide)), up_up, up_self]
  · intro i hi
    show i_X7_turnings_22 (if i = 0 then S else up S 7 j (nI (1 + i - 1))) (nI j) (S 7 j) (fitI so 1 i) (nI (1 + i)) = _
    have e : up (if i = 0 then S else up S 7 j (nI (1 + i - 1))) 7 j (nI (1 + i)) = up S 7 j (nI (1 + i)) := by
      split
      · rfl
      · rw [up_up]
    unfold i_X7_turnings_22
    rw [if_neg (by rw [n4, nlt (by decide) (by omega)]; omega), ck_t (okn (by omega) (by decide)), ixn (by omega), e, hso i hi, bd_s, nadd1, fitI, or0]
    show _ = some (Sum.inl ((if i + 1 = 0 then S else up S 7 j (nI (1 + (i + 1) - 1))), (if so (1 + i) then fitI so 1 i ||| shl32 1 (nI (1 + i)) else fitI so 1 i), nI (1 + (i + 1))))
    rw [if_neg (show ¬ i + 1 = 0 by omega), show 1 + (i + 1) - 1 = 1 + i by omega, show 1 + i + 1 = 1 + (i + 1) by omega]
    by_cases hb : so (1 + i) = true
    · rw [hb, if_neg (by decide), if_pos rfl]
    · simp only [Bool.not_eq_true] at hb
      rw [hb, if_pos rfl, if_neg (by decide)]
  · show i_X7_turnings_22 (if 4 = 0 then S else up S 7 j (nI (1 + 4 - 1))) (nI j) (S 7 j) (fitI so 1 4) (nI (1 + 4)) = _
    unfold i_X7_turnings_22
    rw [if_pos (by rw [n4, nlt (by decide) (by omega)]; omega), if_neg (show ¬ 4 = 0 by decide)]
  · have := bigN; omega
theorem M_kinds {S : St} {D : HD} (h : MH S D) (g : GH D) {j : Nat} (hj : j < ns D) (so : Nat → Bool) (hso : ∀ i, i < 3 → f_X7_areSo (up S 6 j (nI (0 + i))) = some (so (0 + i))) : f_X7_kinds S (nI j) = some (fitI so 0 3, S) := by
  have h5 := g.1
  have hs5 := g.2.1
  unfold f_X7_kinds
  rw [M_sw1 h g hj, bd_s, if_pos rfl, ck_t (okn (by omega) (by decide)), ixn (by omega)]
  rw [iter_to (fun i => ((if i = 0 then S else up S 6 j (nI (0 + i - 1))), fitI so 0 i, nI (0 + i))) 3 (t := (up S 6 j (nI (0 + 3 - 1)), fitI so 0 3, nI (0 + 3))) (by rfl), bd_s, ck_t (okn (by omega) (by decide)), up_up, up_self]
  · intro i hi
    show i_X7_kinds_22 (if i = 0 then S else up S 6 j (nI (0 + i - 1))) (nI j) (S 6 j) (fitI so 0 i) (nI (0 + i)) = _
    have e : up (if i = 0 then S else up S 6 j (nI (0 + i - 1))) 6 j (nI (0 + i)) = up S 6 j (nI (0 + i)) := by
      split
      · rfl
      · rw [up_up]
    unfold i_X7_kinds_22
    rw [if_neg (by rw [n3, nle (by decide) (by omega)]; omega), ck_t (okn (by omega) (by decide)), ixn (by omega), e, hso i hi, bd_s, nadd1, fitI, or0]
    show _ = some (Sum.inl ((if i + 1 = 0 then S else up S 6 j (nI (0 + (i + 1) - 1))), (if so (0 + i) then fitI so 0 i ||| shl32 1 (nI (0 + i)) else fitI so 0 i), nI (0 + (i + 1))))
    rw [if_neg (show ¬ i + 1 = 0 by omega), show 0 + (i + 1) - 1 = 0 + i by omega, show 0 + i + 1 = 0 + (i + 1) by omega]
    by_cases hb : so (0 + i) = true
    · rw [hb, if_neg (by decide), if_pos rfl]
    · simp only [Bool.not_eq_true] at hb
      rw [hb, if_pos rfl, if_neg (by decide)]
  · show i_X7_kinds_22 (if 3 = 0 then S else up S 6 j (nI (0 + 3 - 1))) (nI j) (S 6 j) (fitI so 0 3) (nI (0 + 3)) = _
    unfold i_X7_kinds_22
    rw [if_pos (by rw [n3, nle (by decide) (by omega)]; omega), if_neg (show ¬ 3 = 0 by decide)]
  · have := bigN; omega
theorem M_shadings {S : St} {D : HD} (h : MH S D) (g : GH D) {j : Nat} (hj : j < nl D) (so : Nat → Bool) (hso : ∀ i, i < 4 → f_X7_areSo (up S 4 j (nI (2 + i))) = some (so (2 + i))) : f_X7_shadings S (nI j) = some (fitI so 2 4, S) := by
  have h5 := g.1
  have hs5 := g.2.1
  unfold f_X7_shadings
  rw [M_lamp1 h g hj, bd_s, if_pos rfl, ck_t (okn (by omega) (by decide)), ixn (by omega)]
  rw [iter_to (fun i => ((if i = 0 then S else up S 4 j (nI (2 + i - 1))), fitI so 2 i, nI (2 + i))) 4 (t := (up S 4 j (nI (2 + 4 - 1)), fitI so 2 4, nI (2 + 4))) (by rfl), bd_s, ck_t (okn (by omega) (by decide)), up_up, up_self]
  · intro i hi
    show i_X7_shadings_22 (if i = 0 then S else up S 4 j (nI (2 + i - 1))) (nI j) (S 4 j) (fitI so 2 i) (nI (2 + i)) = _
    have e : up (if i = 0 then S else up S 4 j (nI (2 + i - 1))) 4 j (nI (2 + i)) = up S 4 j (nI (2 + i)) := by
      split
      · rfl
      · rw [up_up]
    unfold i_X7_shadings_22
    rw [if_neg (by rw [n5, nlt (by decide) (by omega)]; omega), ck_t (okn (by omega) (by decide)), ixn (by omega), e, hso i hi, bd_s, nadd1, fitI, or0]
    show _ = some (Sum.inl ((if i + 1 = 0 then S else up S 4 j (nI (2 + (i + 1) - 1))), (if so (2 + i) then fitI so 2 i ||| shl32 1 (nI (2 + i)) else fitI so 2 i), nI (2 + (i + 1))))
    rw [if_neg (show ¬ i + 1 = 0 by omega), show 2 + (i + 1) - 1 = 2 + i by omega, show 2 + i + 1 = 2 + (i + 1) by omega]
    by_cases hb : so (2 + i) = true
    · rw [hb, if_neg (by decide), if_pos rfl]
    · simp only [Bool.not_eq_true] at hb
      rw [hb, if_pos rfl, if_neg (by decide)]
  · show i_X7_shadings_22 (if 4 = 0 then S else up S 4 j (nI (2 + 4 - 1))) (nI j) (S 4 j) (fitI so 2 4) (nI (2 + 4)) = _
    unfold i_X7_shadings_22
    rw [if_pos (by rw [n5, nlt (by decide) (by omega)]; omega), if_neg (show ¬ 4 = 0 by decide)]
  · have := bigN; omega
theorem sim_turnings : Sim_turnings Inv := by
  intro Sx Sm a0 h
  obtain ⟨D, nw, nr, rs, rl, hI⟩ := id h
  obtain ⟨h1, h2, h3, h4, h5, h6, h7⟩ := id hI
  obtain ⟨g, hx, hm, hg⟩ := id h1
  have hs5 := g.2.1
  have hl5 := g.1
  rcases nix2 a0 (n := ns D) (by omega) with ha | ⟨j, hj, rfl⟩
  · unfold f_X6_turnings f_X7_turnings
    rw [X_sw0 hx ha, M_sw0 hm ha, bd_s, bd_s, if_pos rfl, if_neg (by decide)]
    exact ⟨_, Sx, Sm, rfl, rfl, h⟩
  have gv : ∀ v, 1 ≤ v → v ≤ 4 → GH ((nl D, ns D, sh D, kd D, (fun s => if s = j then v else tn D s), wr D) : HD) := by
    intro v hv1 hv2
    refine ⟨g.1, g.2.1, g.2.2.1, fun s hs => ?_⟩
    have := g.2.2.2 s hs
    show kd D s ≤ 2 ∧ 1 ≤ (if s = j then v else tn D s) ∧ (if s = j then v else tn D s) ≤ 4 ∧ wr D s < 32
    split <;> omega
  have xv : ∀ v, XH (up Sx 25 j (nI v)) ((nl D, ns D, sh D, kd D, (fun s => if s = j then v else tn D s), wr D) : HD) := by
    intro v
    refine ⟨by rw [up_ne _ _ _ _ (by decide)]; exact hx.1, by rw [up_ne _ _ _ _ (by decide)]; exact hx.2.1, fun l hl => by rw [up_ne _ _ _ _ (by decide)]; exact hx.2.2.1 l hl, fun s hs => ?_⟩
    rw [show up Sx 25 j (nI v) 24 = Sx 24 from up_ne _ _ _ _ (by decide), show up Sx 25 j (nI v) 26 = Sx 26 from up_ne _ _ _ _ (by decide), show up Sx 25 j (nI v) 25 s = (if s = j then nI v else Sx 25 s) by rw [up_ap, if_pos rfl]]
    have hq : (if s = j then nI v else Sx 25 s) = nI (if s = j then v else tn D s) := by
      by_cases e : s = j
      · simp only [if_pos e]
      · simp only [if_neg e]; exact (hx.2.2.2 s hs).2.1
    exact ⟨(hx.2.2.2 s hs).1, hq, (hx.2.2.2 s hs).2.2⟩
  have mv : ∀ v, MH (up Sm 7 j (nI v)) ((nl D, ns D, sh D, kd D, (fun s => if s = j then v else tn D s), wr D) : HD) := by
    intro v
    refine ⟨by rw [up_ne _ _ _ _ (by decide)]; exact hm.1, by rw [up_ne _ _ _ _ (by decide)]; exact hm.2.1, fun l hl => by rw [up_ne _ _ _ _ (by decide)]; exact hm.2.2.1 l hl, fun s hs => ?_⟩
    rw [show up Sm 7 j (nI v) 6 = Sm 6 from up_ne _ _ _ _ (by decide), show up Sm 7 j (nI v) 8 = Sm 8 from up_ne _ _ _ _ (by decide), show up Sm 7 j (nI v) 7 s = (if s = j then nI v else Sm 7 s) by rw [up_ap, if_pos rfl]]
    have hq : (if s = j then nI v else Sm 7 s) = nI (if s = j then v else tn D s) := by
      by_cases e : s = j
      · simp only [if_pos e]
      · simp only [if_neg e]; exact (hm.2.2.2 s hs).2.1
    exact ⟨(hm.2.2.2 s hs).1, hq, (hm.2.2.2 s hs).2.2⟩
  have hX : ∀ v, 1 ≤ v → v ≤ 4 → f_X3_areSo (up Sx 25 j (nI v)) = some (soB ((nl D, ns D, sh D, kd D, (fun s => if s = j then v else tn D s), wr D) : HD) nr rs rl (Sx 35)) := by
    intro v hv1 hv2
    have := X_areSo (xv v) (gv v hv1 hv2) (nr := nr) (rs := rs) (rl := rl) h5.1 (by rw [up_ne _ _ _ _ (by decide)]; exact h5.2.1) (fun q hq => by rw [up_ne _ _ _ _ (by decide), up_ne _ _ _ _ (by decide)]; exact ⟨(h5.2.2.2 q hq).1.1, (h5.2.2.2 q hq).1.2.2, (h5.2.2.2 q hq).2.1.1, (h5.2.2.2 q hq).2.1.2.2⟩)
    rw [up_ne _ _ _ _ (show 35 ≠ 25 by decide)] at this
    exact this
  have hM : ∀ v, 1 ≤ v → v ≤ 4 → f_X7_areSo (up Sm 7 j (nI v)) = some (soB ((nl D, ns D, sh D, kd D, (fun s => if s = j then v else tn D s), wr D) : HD) nr rs rl (Sx 35)) := by
    intro v hv1 hv2
    have := M_areSo (mv v) (gv v hv1 hv2) (nr := nr) (rs := rs) (rl := rl) h5.1 (by rw [up_ne _ _ _ _ (by decide)]; exact h5.2.2.1) (fun q hq => by rw [up_ne _ _ _ _ (by decide), up_ne _ _ _ _ (by decide)]; exact ⟨(h5.2.2.2 q hq).1.2.1, (h5.2.2.2 q hq).1.2.2, (h5.2.2.2 q hq).2.1.2.1, (h5.2.2.2 q hq).2.1.2.2⟩)
    rw [up_ne _ _ _ _ (show 17 ≠ 7 by decide), soB_cong (fun q hq => ((h5.2.2.2 q hq).2.2).symm)] at this
    exact this
  have eM := M_turnings hm g hj (fun v => soB ((nl D, ns D, sh D, kd D, (fun s => if s = j then v else tn D s), wr D) : HD) nr rs rl (Sx 35)) (fun i hi => hM (1 + i) (by omega) (by omega))
  have eX := X_fitting (S := Sx) (k := 25) (j := j) (lo := 1) (n := 4) ⟨by decide, by decide⟩ (by decide) (by omega) (by decide) (fun v => soB ((nl D, ns D, sh D, kd D, (fun s => if s = j then v else tn D s), wr D) : HD) nr rs rl (Sx 35)) (fun i hi => hX (1 + i) (by omega) (by omega)) (by decide)
  rw [eM]
  unfold f_X6_turnings
  rw [X_sw1 hx g hj, bd_s, if_neg (by decide), show f_X6_fitting Sx 25 (nI j) 1 4 = _ from eX, bd_s]
  exact ⟨_, Sx, Sm, rfl, rfl, h⟩
theorem sim_kinds : Sim_kinds Inv := by
  intro Sx Sm a0 h
  obtain ⟨D, nw, nr, rs, rl, hI⟩ := id h
  obtain ⟨h1, h2, h3, h4, h5, h6, h7⟩ := id hI
  obtain ⟨g, hx, hm, hg⟩ := id h1
  have hs5 := g.2.1
  have hl5 := g.1
  rcases nix2 a0 (n := ns D) (by omega) with ha | ⟨j, hj, rfl⟩
  · unfold f_X6_kinds f_X7_kinds
    rw [X_sw0 hx ha, M_sw0 hm ha, bd_s, bd_s, if_pos rfl, if_neg (by decide)]
    exact ⟨_, Sx, Sm, rfl, rfl, h⟩
  have gv : ∀ v, 0 ≤ v → v ≤ 2 → GH ((nl D, ns D, sh D, (fun s => if s = j then v else kd D s), tn D, wr D) : HD) := by
    intro v hv1 hv2
    refine ⟨g.1, g.2.1, g.2.2.1, fun s hs => ?_⟩
    have := g.2.2.2 s hs
    show (if s = j then v else kd D s) ≤ 2 ∧ 1 ≤ tn D s ∧ tn D s ≤ 4 ∧ wr D s < 32
    split <;> omega
  have xv : ∀ v, XH (up Sx 24 j (nI v)) ((nl D, ns D, sh D, (fun s => if s = j then v else kd D s), tn D, wr D) : HD) := by
    intro v
    refine ⟨by rw [up_ne _ _ _ _ (by decide)]; exact hx.1, by rw [up_ne _ _ _ _ (by decide)]; exact hx.2.1, fun l hl => by rw [up_ne _ _ _ _ (by decide)]; exact hx.2.2.1 l hl, fun s hs => ?_⟩
    rw [show up Sx 24 j (nI v) 25 = Sx 25 from up_ne _ _ _ _ (by decide), show up Sx 24 j (nI v) 26 = Sx 26 from up_ne _ _ _ _ (by decide), show up Sx 24 j (nI v) 24 s = (if s = j then nI v else Sx 24 s) by rw [up_ap, if_pos rfl]]
    have hq : (if s = j then nI v else Sx 24 s) = nI (if s = j then v else kd D s) := by
      by_cases e : s = j
      · simp only [if_pos e]
      · simp only [if_neg e]; exact (hx.2.2.2 s hs).1
    exact ⟨hq, (hx.2.2.2 s hs).2.1, (hx.2.2.2 s hs).2.2⟩
  have mv : ∀ v, MH (up Sm 6 j (nI v)) ((nl D, ns D, sh D, (fun s => if s = j then v else kd D s), tn D, wr D) : HD) := by
    intro v
    refine ⟨by rw [up_ne _ _ _ _ (by decide)]; exact hm.1, by rw [up_ne _ _ _ _ (by decide)]; exact hm.2.1, fun l hl => by rw [up_ne _ _ _ _ (by decide)]; exact hm.2.2.1 l hl, fun s hs => ?_⟩
    rw [show up Sm 6 j (nI v) 7 = Sm 7 from up_ne _ _ _ _ (by decide), show up Sm 6 j (nI v) 8 = Sm 8 from up_ne _ _ _ _ (by decide), show up Sm 6 j (nI v) 6 s = (if s = j then nI v else Sm 6 s) by rw [up_ap, if_pos rfl]]
    have hq : (if s = j then nI v else Sm 6 s) = nI (if s = j then v else kd D s) := by
      by_cases e : s = j
      · simp only [if_pos e]
      · simp only [if_neg e]; exact (hm.2.2.2 s hs).1
    exact ⟨hq, (hm.2.2.2 s hs).2.1, (hm.2.2.2 s hs).2.2⟩
  have hX : ∀ v, 0 ≤ v → v ≤ 2 → f_X3_areSo (up Sx 24 j (nI v)) = some (soB ((nl D, ns D, sh D, (fun s => if s = j then v else kd D s), tn D, wr D) : HD) nr rs rl (Sx 35)) := by
    intro v hv1 hv2
    have := X_areSo (xv v) (gv v hv1 hv2) (nr := nr) (rs := rs) (rl := rl) h5.1 (by rw [up_ne _ _ _ _ (by decide)]; exact h5.2.1) (fun q hq => by rw [up_ne _ _ _ _ (by decide), up_ne _ _ _ _ (by decide)]; exact ⟨(h5.2.2.2 q hq).1.1, (h5.2.2.2 q hq).1.2.2, (h5.2.2.2 q hq).2.1.1, (h5.2.2.2 q hq).2.1.2.2⟩)
    rw [up_ne _ _ _ _ (show 35 ≠ 24 by decide)] at this
    exact this
  have hM : ∀ v, 0 ≤ v → v ≤ 2 → f_X7_areSo (up Sm 6 j (nI v)) = some (soB ((nl D, ns D, sh D, (fun s => if s = j then v else kd D s), tn D, wr D) : HD) nr rs rl (Sx 35)) := by
    intro v hv1 hv2
    have := M_areSo (mv v) (gv v hv1 hv2) (nr := nr) (rs := rs) (rl := rl) h5.1 (by rw [up_ne _ _ _ _ (by decide)]; exact h5.2.2.1) (fun q hq => by rw [up_ne _ _ _ _ (by decide), up_ne _ _ _ _ (by decide)]; exact ⟨(h5.2.2.2 q hq).1.2.1, (h5.2.2.2 q hq).1.2.2, (h5.2.2.2 q hq).2.1.2.1, (h5.2.2.2 q hq).2.1.2.2⟩)
    rw [up_ne _ _ _ _ (show 17 ≠ 6 by decide), soB_cong (fun q hq => ((h5.2.2.2 q hq).2.2).symm)] at this
    exact this
  have eM := M_kinds hm g hj (fun v => soB ((nl D, ns D, sh D, (fun s => if s = j then v else kd D s), tn D, wr D) : HD) nr rs rl (Sx 35)) (fun i hi => hM (0 + i) (by omega) (by omega))
  have eX := X_fitting (S := Sx) (k := 24) (j := j) (lo := 0) (n := 3) ⟨by decide, by decide⟩ (by decide) (by omega) (by decide) (fun v => soB ((nl D, ns D, sh D, (fun s => if s = j then v else kd D s), tn D, wr D) : HD) nr rs rl (Sx 35)) (fun i hi => hX (0 + i) (by omega) (by omega)) (by decide)
  rw [eM]
  unfold f_X6_kinds
  rw [X_sw1 hx g hj, bd_s, if_neg (by decide), show f_X6_fitting Sx 24 (nI j) 0 2 = _ from eX, bd_s]
  exact ⟨_, Sx, Sm, rfl, rfl, h⟩
theorem sim_shadings : Sim_shadings Inv := by
  intro Sx Sm a0 h
  obtain ⟨D, nw, nr, rs, rl, hI⟩ := id h
  obtain ⟨h1, h2, h3, h4, h5, h6, h7⟩ := id hI
  obtain ⟨g, hx, hm, hg⟩ := id h1
  have hs5 := g.2.1
  have hl5 := g.1
  rcases nix2 a0 (n := nl D) (by omega) with ha | ⟨j, hj, rfl⟩
  · unfold f_X6_shadings f_X7_shadings
    rw [X_lamp0 hx ha, M_lamp0 hm ha, bd_s, bd_s, if_pos rfl, if_neg (by decide)]
    exact ⟨_, Sx, Sm, rfl, rfl, h⟩
  have gv : ∀ v, 2 ≤ v → v ≤ 5 → GH ((nl D, ns D, (fun l => if l = j then v else sh D l), kd D, tn D, wr D) : HD) := by
    intro v hv1 hv2
    refine ⟨g.1, g.2.1, fun l hl => ?_, g.2.2.2⟩
    have := g.2.2.1 l hl
    show 2 ≤ (if l = j then v else sh D l) ∧ (if l = j then v else sh D l) ≤ 5
    split <;> omega
  have xv : ∀ v, XH (up Sx 22 j (nI v)) ((nl D, ns D, (fun l => if l = j then v else sh D l), kd D, tn D, wr D) : HD) := by
    intro v
    refine ⟨by rw [up_ne _ _ _ _ (by decide)]; exact hx.1, by rw [up_ne _ _ _ _ (by decide)]; exact hx.2.1, fun l hl => ?_, fun s hs => by rw [up_ne _ _ _ _ (by decide), up_ne _ _ _ _ (by decide), up_ne _ _ _ _ (by decide)]; exact hx.2.2.2 s hs⟩
    show _ = nI (if l = j then v else sh D l)
    rw [up_ap, if_pos rfl]
    by_cases e : l = j
    · simp only [if_pos e]
    · simp only [if_neg e]; exact hx.2.2.1 l hl
  have mv : ∀ v, MH (up Sm 4 j (nI v)) ((nl D, ns D, (fun l => if l = j then v else sh D l), kd D, tn D, wr D) : HD) := by
    intro v
    refine ⟨by rw [up_ne _ _ _ _ (by decide)]; exact hm.1, by rw [up_ne _ _ _ _ (by decide)]; exact hm.2.1, fun l hl => ?_, fun s hs => by rw [up_ne _ _ _ _ (by decide), up_ne _ _ _ _ (by decide), up_ne _ _ _ _ (by decide)]; exact hm.2.2.2 s hs⟩
    show _ = nI (if l = j then v else sh D l)
    rw [up_ap, if_pos rfl]
    by_cases e : l = j
    · simp only [if_pos e]
    · simp only [if_neg e]; exact hm.2.2.1 l hl
  have hX : ∀ v, 2 ≤ v → v ≤ 5 → f_X3_areSo (up Sx 22 j (nI v)) = some (soB ((nl D, ns D, (fun l => if l = j then v else sh D l), kd D, tn D, wr D) : HD) nr rs rl (Sx 35)) := by
    intro v hv1 hv2
    have := X_areSo (xv v) (gv v hv1 hv2) (nr := nr) (rs := rs) (rl := rl) h5.1 (by rw [up_ne _ _ _ _ (by decide)]; exact h5.2.1) (fun q hq => by rw [up_ne _ _ _ _ (by decide), up_ne _ _ _ _ (by decide)]; exact ⟨(h5.2.2.2 q hq).1.1, (h5.2.2.2 q hq).1.2.2, (h5.2.2.2 q hq).2.1.1, (h5.2.2.2 q hq).2.1.2.2⟩)
    rw [up_ne _ _ _ _ (show 35 ≠ 22 by decide)] at this
    exact this
  have hM : ∀ v, 2 ≤ v → v ≤ 5 → f_X7_areSo (up Sm 4 j (nI v)) = some (soB ((nl D, ns D, (fun l => if l = j then v else sh D l), kd D, tn D, wr D) : HD) nr rs rl (Sx 35)) := by
    intro v hv1 hv2
    have := M_areSo (mv v) (gv v hv1 hv2) (nr := nr) (rs := rs) (rl := rl) h5.1 (by rw [up_ne _ _ _ _ (by decide)]; exact h5.2.2.1) (fun q hq => by rw [up_ne _ _ _ _ (by decide), up_ne _ _ _ _ (by decide)]; exact ⟨(h5.2.2.2 q hq).1.2.1, (h5.2.2.2 q hq).1.2.2, (h5.2.2.2 q hq).2.1.2.1, (h5.2.2.2 q hq).2.1.2.2⟩)
    rw [up_ne _ _ _ _ (show 17 ≠ 4 by decide), soB_cong (fun q hq => ((h5.2.2.2 q hq).2.2).symm)] at this
    exact this
  have eM := M_shadings hm g hj (fun v => soB ((nl D, ns D, (fun l => if l = j then v else sh D l), kd D, tn D, wr D) : HD) nr rs rl (Sx 35)) (fun i hi => hM (2 + i) (by omega) (by omega))
  have eX := X_fitting (S := Sx) (k := 22) (j := j) (lo := 2) (n := 4) ⟨by decide, by decide⟩ (by decide) (by omega) (by decide) (fun v => soB ((nl D, ns D, (fun l => if l = j then v else sh D l), kd D, tn D, wr D) : HD) nr rs rl (Sx 35)) (fun i hi => hX (2 + i) (by omega) (by omega)) (by decide)
  rw [eM]
  unfold f_X6_shadings
  rw [X_lamp1 hx g hj, bd_s, if_neg (by decide), show f_X6_fitting Sx 22 (nI j) 2 5 = _ from eX, bd_s]
  exact ⟨_, Sx, Sm, rfl, rfl, h⟩
