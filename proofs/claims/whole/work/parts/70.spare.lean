/-! how many halls; switches that can be done without -/
theorem X_manyBy {S : St} {D : HD} (h : XH S D) (g : GH D) (hC : Cch D S) {set : Nat} (hset : set < 32) : ∃ S', f_X2_manyBy S (nI set) = some (nI (BF D set).2.2, S') ∧ Cch D S' ∧ ∀ a, a ≠ 3 → a ≠ 29 → ¬ (16 ≤ a ∧ a < 21) → a ≠ 30 → a ≠ 31 → a ≠ 32 → S' a = S a := by
  obtain ⟨X1, x1, x2, x3, x4, x5, x6⟩ := X_spread h g hC hset
  refine ⟨X1, ?_, Or.inr ⟨set, hset, x2, x3, x4, x5.1, x5.2⟩, x6⟩
  unfold f_X2_manyBy
  rw [x1, bd_s, x3]
theorem sim_halls : Sim_halls Inv := by
  intro Sx Sm h
  obtain ⟨D, nw, nr, rs, rl, hI⟩ := id h
  obtain ⟨h1, h2, h3, h4, h5, h6, h7⟩ := id hI
  obtain ⟨g, hx, hm, hg⟩ := id h1
  have hn5 := g.1
  have hs5 := g.2.1
  unfold f_X6_halls f_X7_halls f_X1_isMissing
  rw [hx.1, hm.1]
  by_cases c3 : nl D = 0
  · rw [c3, if_pos (show nI 0 = (0 : Int32) from rfl), if_pos (show nI 0 = (0 : Int32) from rfl), bd_s, if_neg (by decide)]
    exact ⟨_, Sx, Sm, rfl, rfl, h⟩
  have c3' : ¬ nI (nl D) = (0 : Int32) := nI_ne0 (by omega) (by omega)
  rw [if_neg c3', if_neg c3', bd_s, if_pos rfl]
  obtain ⟨X1, x1, x2, x3⟩ := X_manyBy hx g h7 (full_lt g)
  obtain ⟨M1, m1, m2⟩ := M_findMany hm g (set := full D) (w := -9) (fun s hs => ⟨fun _ => m9 (by omega), fun _ => full_bit hs⟩)
  rw [X_all hx g, bd_s, x1, bd_s, m1, bd_s]
  exact ⟨_, X1, M1, rfl, rfl, D, nw, nr, rs, rl, Inv.reachTo hI (fun a a1 a2 a3 a4 a5 a6 a7 => x3 a a1 a3 a4 a5 a6 a7) m2 x2⟩
/-- all but one -/
def wo (D : HD) (s : Nat) : Nat := 2 ^ ns D - 1 - 2 ^ s
theorem wo_tab : ∀ n, n ≤ 5 → ∀ s, s < n → nI (2 ^ n - 1) &&& (shl32 (1 : Int32) (nI s) ^^^ (-1 : Int32)) = nI (2 ^ n - 1 - 2 ^ s) ∧ 2 ^ n - 1 - 2 ^ s < 32 ∧ ∀ j, j < n → ((2 ^ n - 1 - 2 ^ s).testBit j = true ↔ ¬ j = s) := by decide +kernel
def spr (D : HD) : Nat → Int32
  | 0 => 0
  | n + 1 => if nI (BF D (wo D n)).2.2 = nI (BF D (full D)).2.2 then spr D n ||| shl32 (1 : Int32) (nI n) else spr D n
theorem sim_spare : Sim_spare Inv := by
  intro Sx Sm h
  obtain ⟨D, nw, nr, rs, rl, hI⟩ := id h
  obtain ⟨h1, h2, h3, h4, h5, h6, h7⟩ := id hI
  obtain ⟨g, hx, hm, hg⟩ := id h1
  have hn5 := g.1
  have hs5 := g.2.1
  unfold f_X6_spare f_X7_spare f_X1_isMissing
  rw [hx.1, hm.1]
  by_cases c3 : nl D = 0
  · rw [c3, if_pos (show nI 0 = (0 : Int32) from rfl), if_pos (show nI 0 = (0 : Int32) from rfl), bd_s, if_neg (by decide)]
    exact ⟨_, Sx, Sm, rfl, rfl, h⟩
  have c3' : ¬ nI (nl D) = (0 : Int32) := nI_ne0 (by omega) (by omega)
  rw [if_neg c3', if_neg c3', bd_s, if_pos rfl]
  obtain ⟨X1, x1, x2, x3⟩ := X_manyBy hx g h7 (full_lt g)
  obtain ⟨M1, m1, m2⟩ := M_findMany hm g (set := full D) (w := -9) (fun s hs => ⟨fun _ => m9 (by omega), fun _ => full_bit hs⟩)
  rw [X_all hx g, bd_s, x1, bd_s, m1, bd_s]
  obtain ⟨t, t1, t2, t3, t4⟩ := iter_rel (it := fun q : St × Int32 × Int32 => i_X6_spare_39 q.1 (nI (full D)) (nI (BF D (full D)).2.2) q.2.1 q.2.2) (fun n q => q.2.1 = spr D n ∧ q.2.2 = nI n ∧ Cch D q.1 ∧ ∀ a, a ≠ 3 → a ≠ 29 → ¬ (16 ≤ a ∧ a < 21) → a ≠ 30 → a ≠ 31 → a ≠ 32 → q.1 a = Sx a) (fun t => t.2.1 = spr D (ns D) ∧ Cch D t.1 ∧ ∀ a, a ≠ 3 → a ≠ 29 → ¬ (16 ≤ a ∧ a < 21) → a ≠ 30 → a ≠ 31 → a ≠ 32 → t.1 a = Sx a) (ns D) (by
    intro n q hn hq
    obtain ⟨S1, y, x⟩ := q
    obtain ⟨e2, e, hC, hf⟩ := hq
    have e : x = nI n := e
    have e2 : y = spr D n := e2
    subst e
    subst e2
    have hC : Cch D S1 := hC
    have hf : ∀ a, a ≠ 3 → a ≠ 29 → ¬ (16 ≤ a ∧ a < 21) → a ≠ 30 → a ≠ 31 → a ≠ 32 → S1 a = Sx a := hf
    have hX : XH S1 D := hx.fr (fun a ha => hf a (by omega) (by omega) (by omega) (by omega) (by omega) (by omega))
    obtain ⟨w1, w2, w3⟩ := wo_tab (ns D) hs5 n hn
    obtain ⟨S2, y1, y2, y3⟩ := X_manyBy hX g hC (set := wo D n) w2
    refine ⟨(S2, spr D (n + 1), nI (n + 1)), ?_, rfl, rfl, y2, fun a a1 a2 a3 a4 a5 a6 => ?_⟩
    · show i_X6_spare_39 S1 (nI (full D)) (nI (BF D (full D)).2.2) (spr D n) (nI n) = _
      unfold i_X6_spare_39
      rw [hX.2.1, if_neg (by rw [nle (by omega) (by omega)]; omega), show nI (full D) &&& (shl32 (1 : Int32) (nI n) ^^^ (-1 : Int32)) = nI (wo D n) from w1, y1, bd_s, nadd1]
      show (if nI (BF D (wo D n)).2.2 = nI (BF D (full D)).2.2 then _ else _) = some (Sum.inl (S2, (if nI (BF D (wo D n)).2.2 = nI (BF D (full D)).2.2 then spr D n ||| shl32 (1 : Int32) (nI n) else spr D n), nI (n + 1)))
      by_cases e : nI (BF D (wo D n)).2.2 = nI (BF D (full D)).2.2
      · rw [if_pos e, if_pos e]
      · rw [if_neg e, if_neg e]
    · show S2 a = Sx a
      rw [y3 a a1 a2 a3 a4 a5 a6]
      exact hf a a1 a2 a3 a4 a5 a6) (by
    intro q hq
    obtain ⟨S1, y, x⟩ := q
    obtain ⟨e2, e, hC, hf⟩ := hq
    have e : x = nI (ns D) := e
    have e2 : y = spr D (ns D) := e2
    subst e
    subst e2
    have hf : ∀ a, a ≠ 3 → a ≠ 29 → ¬ (16 ≤ a ∧ a < 21) → a ≠ 30 → a ≠ 31 → a ≠ 32 → S1 a = Sx a := hf
    refine ⟨(S1, spr D (ns D), nI (ns D)), ?_, rfl, hC, hf⟩
    show i_X6_spare_39 S1 (nI (full D)) (nI (BF D (full D)).2.2) (spr D (ns D)) (nI (ns D)) = _
    unfold i_X6_spare_39
    rw [hf 1 (by decide) (by decide) (by decide) (by decide) (by decide) (by decide), hx.2.1, if_pos (by rw [nle (by omega) (by omega)]; omega)]) (X1, (0 : Int32), (0 : Int32)) ⟨rfl, rfl, x2, x3⟩ (by have := bigN; omega)
  obtain ⟨u, u1, u2, u3⟩ := iter_rel (it := fun q : St × Int32 × Int32 => i_X7_spare_21 q.1 (nI (BF D (full D)).2.2) q.2.1 q.2.2) (fun n q => q.2.1 = spr D n ∧ q.2.2 = nI n ∧ ∀ a, a ≠ 13 → a ≠ 14 → q.1 a = Sm a) (fun t => t.2.1 = spr D (ns D) ∧ ∀ a, a ≠ 13 → a ≠ 14 → t.1 a = Sm a) (ns D) (by
    intro n q hn hq
    obtain ⟨S1, y, x⟩ := q
    obtain ⟨e2, e, hf⟩ := hq
    have e : x = nI n := e
    have e2 : y = spr D n := e2
    subst e
    subst e2
    have hf : ∀ a, a ≠ 13 → a ≠ 14 → S1 a = Sm a := hf
    have hX : MH S1 D := hm.fr (by rw [hf 0 (by decide) (by decide)]) (by rw [hf 0 (by decide) (by decide)]) (fun a ha => hf a (by omega) (by omega))
    obtain ⟨w1, w2, w3⟩ := wo_tab (ns D) hs5 n hn
    obtain ⟨S2, y1, y2⟩ := M_findMany hX g (set := wo D n) (w := nI n) (fun s hs => by rw [neq (by omega) (by omega)]; exact w3 s hs)
    refine ⟨(S2, spr D (n + 1), nI (n + 1)), ?_, rfl, rfl, fun a a1 a2 => ?_⟩
    · show i_X7_spare_21 S1 (nI (BF D (full D)).2.2) (spr D n) (nI n) = _
      unfold i_X7_spare_21
      rw [hX.2.1, if_neg (by rw [nle (by omega) (by omega)]; omega), y1, bd_s, nadd1, or0]
      show (if nI (BF D (wo D n)).2.2 = nI (BF D (full D)).2.2 then _ else _) = some (Sum.inl (S2, (if nI (BF D (wo D n)).2.2 = nI (BF D (full D)).2.2 then spr D n ||| shl32 (1 : Int32) (nI n) else spr D n), nI (n + 1)))
      by_cases e : nI (BF D (wo D n)).2.2 = nI (BF D (full D)).2.2
      · rw [if_pos e, if_pos e]
      · rw [if_neg e, if_neg e]
    · show S2 a = Sm a
      rw [y2 a a1 a2]
      exact hf a a1 a2) (by
    intro q hq
    obtain ⟨S1, y, x⟩ := q
    obtain ⟨e2, e, hf⟩ := hq
    have e : x = nI (ns D) := e
    have e2 : y = spr D (ns D) := e2
    subst e
    subst e2
    have hf : ∀ a, a ≠ 13 → a ≠ 14 → S1 a = Sm a := hf
    refine ⟨(S1, spr D (ns D), nI (ns D)), ?_, rfl, hf⟩
    show i_X7_spare_21 S1 (nI (BF D (full D)).2.2) (spr D (ns D)) (nI (ns D)) = _
    unfold i_X7_spare_21
    rw [hf 0 (by decide) (by decide), hm.2.1, if_pos (by rw [nle (by omega) (by omega)]; omega)]) (M1, (0 : Int32), (0 : Int32)) ⟨rfl, rfl, m2⟩ (by have := bigN; omega)
  rw [t1, u1, bd_s, bd_s, t2, u2]
  exact ⟨_, t.1, u.1, rfl, rfl, D, nw, nr, rs, rl, Inv.reachTo hI (fun a a1 a2 a3 a4 a5 a6 a7 => t4 a a1 a3 a4 a5 a6 a7) u3 t3⟩
