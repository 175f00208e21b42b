/-! the reference reads it, place by place -/
def TM (S : St) (f n : Nat) (T : Nat → Int32) : Prop := (∀ q, q < n → S 3 (f + q) = T q) ∧ f + n ≤ 240 ∧ n ≤ 60 ∧ ∀ q, n ≤ q → T q = -1
theorem TM.fr {S S' : St} {f n : Nat} {T : Nat → Int32} (h : TM S f n T) (e : S' 3 = S 3) : TM S' f n T := ⟨by rw [e]; exact h.1, h.2⟩
theorem inB_m {a b : Nat} (ha : a < 1000) : inB (-1) (nI a) (nI b) = false := by
  unfold inB
  rw [if_pos]
  rw [Int32.lt_iff_toInt_lt, nI_toInt (by omega)]
  have : (-1 : Int32).toInt = -1 := by decide
  omega
theorem M_dig {S : St} {f n p a b : Nat} {T : Nat → Int32} (h : TM S f n T) (hp : S 0 14 = nI (f + p)) (hp1 : p < 200) (ha : a < 10) (hb : b < 10) : f_X7_digit S (nI (f + n)) (nI a) (nI b) = some (if inB (T p) (nI (48 + a)) (nI (48 + b)) = true then (T p - 48, up S 0 14 (nI (f + p + 1))) else (-9, S)) := by
  obtain ⟨h1, h2, h3, h4⟩ := h
  unfold f_X7_digit
  rw [hp]
  by_cases e : n ≤ p
  · rw [if_pos (by rw [nle (by omega) (by omega)]; omega), h4 p e, inB_m (by omega), if_neg (by decide)]
  · have e14 : (up S 0 14 (nI (f + p + 1))) 0 14 = nI (f + p + 1) := by rw [up_row, if_pos rfl]
    rw [if_neg (by rw [nle (by omega) (by omega)]; omega), ck_t (okn (by omega) (by decide)), ixn (j := f + p) (by omega), h1 p (by omega), show (48 : Int32) + nI a = nI (48 + a) from nI_add 48 a, show (48 : Int32) + nI b = nI (48 + b) from nI_add 48 b, M_in, bd_s, nadd1, e14, nsub1 (by omega), show f + p + 1 - 1 = f + p by omega]
    by_cases q : inB (T p) (nI (48 + a)) (nI (48 + b)) = true
    · rw [if_pos q, if_pos q, ck_t (okn (by omega) (by decide)), ixn (by omega), up_ne _ _ _ _ (by decide), h1 p (by omega)]
    · rw [if_neg q, if_neg q]
theorem M_sign {S : St} {f n p c : Nat} {T : Nat → Int32} (h : TM S f n T) (hp : S 0 14 = nI (f + p)) (hp1 : p < 200) (hc : c < 1000) : f_X7_isSign S (nI (f + n)) (nI c) = some (if T p = nI c then (true, up S 0 14 (nI (f + p + 1))) else (false, S)) := by
  obtain ⟨h1, h2, h3, h4⟩ := h
  unfold f_X7_isSign
  rw [hp]
  by_cases e : n ≤ p
  · rw [if_pos (by rw [nle (by omega) (by omega)]; omega), h4 p e, if_neg (fun q => nneg_ne (a := c) (by omega) (show (-1 : Int32).toInt < 0 by decide) q.symm)]
  · rw [if_neg (by rw [nle (by omega) (by omega)]; omega), ck_t (okn (by omega) (by decide)), ixn (by omega), h1 p (by omega), nadd1]
    by_cases q : T p = nI c
    · rw [if_pos q, if_pos q]
    · rw [if_neg q, if_neg q]
def swr (T : Nat → Int32) (L p : Nat) : Option Nat := if knd (T (p + 1)) = -9 then some (p + 1) else if inB (T (p + 2)) 49 52 = true then (if tl T L p < L then some (p + 3 + tl T L p) else none) else some (p + 2)
theorem swf_eq (T : Nat → Int32) (L p : Nat) : swf T L p = if T p = 59 then swr T L p else some p := rfl
theorem M_kind (S : St) (x1 y : Int32) : j_X7_readSwitch_21 S x1 y = j_X7_readSwitch_66 S x1 ((3 : Int32) * S 0 16) (knd y) ((3 : Int32) * S 0 16) := by
  unfold j_X7_readSwitch_21 knd
  by_cases e1 : y = 112
  · subst e1
    rw [if_pos rfl, if_neg (by decide), if_neg (by decide), if_pos rfl]
  · rw [if_neg e1]
    by_cases e2 : y = 98
    · rw [if_pos e2, if_pos e2]
    · rw [if_neg e2, if_neg e2]
      by_cases e3 : y = 100
      · rw [if_pos e3, if_pos e3]
      · rw [if_neg e3, if_neg e3, if_neg e1]
/-- the wires of a switch -/
theorem M_wires {S : St} {f n p L s : Nat} {T : Nat → Int32} (h : TM S f n T) (hp : S 0 14 = nI (f + (p + 3))) (hp1 : p < 100) (h15 : S 0 15 = nI L) (hL : L ≤ 5) (hs : s < 5) (h0 : S 11 (3 * s + 2) = 0) : ∃ u, iter (fun q : St × Int32 => i_X7_readSwitch_132 q.1 (nI (f + n)) (nI (3 * s)) q.2) BIG (S, (0 : Int32)) = some u ∧
    ((tl T L p < L ∧ ∃ S', u = .inr (false, S') ∧ (∀ a, a ≠ 0 → a ≠ 11 → S' a = S a) ∧ (∀ j, j ≠ 14 → S' 0 j = S 0 j) ∧ (∀ j, j ≠ 3 * s + 2 → S' 11 j = S 11 j) ∧ S' 0 14 = nI (f + (p + 3 + tl T L p))) ∨
     (¬ tl T L p < L ∧ ∃ q, u = .inl q ∧ (∀ a, a ≠ 0 → a ≠ 11 → q.1 a = S a) ∧ (∀ j, j ≠ 14 → q.1 0 j = S 0 j) ∧ (∀ j, j ≠ 3 * s + 2 → q.1 11 j = S 11 j) ∧ q.1 0 14 = nI (f + (p + 3 + L)) ∧ q.1 11 (3 * s + 2) = nI (wvn (fun l => T (p + 3 + l) == 49) L))) := by
  have hle := tl_le T L p
  have hlo : ∀ l, l < tl T L p → inB (T (p + 3 + l)) 48 49 = true := fun l hl => tl_lo hl
  refine iter_rel (fun l (q : St × Int32) => q.2 = nI l ∧ (∀ a, a ≠ 0 → a ≠ 11 → q.1 a = S a) ∧ (∀ j, j ≠ 14 → q.1 0 j = S 0 j) ∧ (∀ j, j ≠ 3 * s + 2 → q.1 11 j = S 11 j) ∧ q.1 0 14 = nI (f + (p + 3 + l)) ∧ q.1 11 (3 * s + 2) = nI (wvn (fun l => T (p + 3 + l) == 49) l)) _ (tl T L p) ?_ ?_ _ ⟨rfl, fun _ _ _ => rfl, fun _ _ => rfl, fun _ _ => rfl, hp, h0⟩ (by have := bigN; omega)
  · intro l q hl hq
    obtain ⟨S1, x⟩ := q
    obtain ⟨e, q1, q2, q3, q4, q5⟩ := hq
    have e : x = nI l := e
    subst e
    have q1 : ∀ a, a ≠ 0 → a ≠ 11 → S1 a = S a := q1
    have q2 : ∀ j, j ≠ 14 → S1 0 j = S 0 j := q2
    have q3 : ∀ j, j ≠ 3 * s + 2 → S1 11 j = S 11 j := q3
    have q4 : S1 0 14 = nI (f + (p + 3 + l)) := q4
    have q5 : S1 11 (3 * s + 2) = nI (wvn (fun l => T (p + 3 + l) == 49) l) := q5
    have hT : TM S1 f n T := h.fr (q1 3 (by decide) (by decide))
    have hin := hlo l hl
    obtain ⟨v, v1, v2, v3⟩ := in_nat (a := 48) (b := 49) (by decide) (by decide) hin
    have hw : (up (up S1 0 14 (nI (f + (p + 3 + l) + 1))) 11 (3 * s + 2) (nI (wvn (fun l => T (p + 3 + l) == 49) (l + 1)))) 11 (3 * s + 2) = nI (wvn (fun l => T (p + 3 + l) == 49) (l + 1)) := by rw [up_row, if_pos rfl]
    have hval : nI (wvn (fun l => T (p + 3 + l) == 49) l) + shl32 (T (p + 3 + l) - 48) (nI l) = nI (wvn (fun l => T (p + 3 + l) == 49) (l + 1)) := by
      obtain ⟨z1, z2⟩ := shl_tab l (by omega)
      show _ = nI (wvn (fun l => T (p + 3 + l) == 49) l + (if (T (p + 3 + l) == 49) then 2 ^ l else 0))
      rcases (show v = 48 ∨ v = 49 by omega) with r | r
      · rw [v3, r, if_neg (by decide), show nI 48 - 48 = nI 0 by decide, z2, nI_add]
      · rw [v3, r, if_pos (by decide), show nI 49 - 48 = nI 1 by decide, z1, nI_add]
    refine ⟨(up (up S1 0 14 (nI (f + (p + 3 + l) + 1))) 11 (3 * s + 2) (nI (wvn (fun l => T (p + 3 + l) == 49) (l + 1))), nI (l + 1)), ?_, rfl, fun a a1 a2 => ?_, fun j hj => ?_, fun j hj => ?_, ?_, hw⟩
    · show i_X7_readSwitch_132 S1 (nI (f + n)) (nI (3 * s)) (nI l) = _
      unfold i_X7_readSwitch_132
      rw [q2 15 (by decide), h15, if_neg (by rw [nle (by omega) (by omega)]; omega), show f_X7_digit S1 (nI (f + n)) (0 : Int32) (1 : Int32) = _ from M_dig (a := 0) (b := 1) hT q4 (by omega) (by decide) (by decide), bd_s, if_pos (show inB (T (p + 3 + l)) (nI (48 + 0)) (nI (48 + 1)) = true from hin), if_neg (show ¬ (T (p + 3 + l) - 48, up S1 0 14 (nI (f + (p + 3 + l) + 1))).1 = -9 by
        show ¬ T (p + 3 + l) - 48 = -9
        rw [v3, show nI v - 48 = nI (v - 48) from pk_sub (a := v) (b := 48) v1]
        exact m9 (by omega)), nadd2, ck_t (okn (by omega) (by decide)), ck_t (okn (by omega) (by decide)), ixn (j := 3 * s + 2) (by omega)]
      show some (Sum.inl (up (up S1 0 14 (nI (f + (p + 3 + l) + 1))) 11 (3 * s + 2) ((up S1 0 14 (nI (f + (p + 3 + l) + 1))) 11 (3 * s + 2) + shl32 (T (p + 3 + l) - 48) (nI l)), nI l + 1)) = _
      rw [up_ne _ _ _ _ (show (11 : Nat) ≠ 0 by decide), q5, hval, nadd1]
    · show up (up S1 0 14 (nI (f + (p + 3 + l) + 1))) 11 (3 * s + 2) (nI (wvn (fun l => T (p + 3 + l) == 49) (l + 1))) a = S a
      rw [up_ne _ _ _ _ a2, up_ne _ _ _ _ a1]
      exact q1 a a1 a2
    · show up (up S1 0 14 (nI (f + (p + 3 + l) + 1))) 11 (3 * s + 2) (nI (wvn (fun l => T (p + 3 + l) == 49) (l + 1))) 0 j = S 0 j
      rw [up_ne _ _ _ _ (by decide), up_row, if_neg hj]
      exact q2 j hj
    · show up (up S1 0 14 (nI (f + (p + 3 + l) + 1))) 11 (3 * s + 2) (nI (wvn (fun l => T (p + 3 + l) == 49) (l + 1))) 11 j = S 11 j
      rw [up_row, if_neg hj, up_ne _ _ _ _ (by decide)]
      exact q3 j hj
    · show up (up S1 0 14 (nI (f + (p + 3 + l) + 1))) 11 (3 * s + 2) (nI (wvn (fun l => T (p + 3 + l) == 49) (l + 1))) 0 14 = nI (f + (p + 3 + (l + 1)))
      rw [up_ne _ _ _ _ (by decide), up_row, if_pos rfl]
      rfl
  · intro q hq
    obtain ⟨S1, x⟩ := q
    obtain ⟨e, q1, q2, q3, q4, q5⟩ := hq
    have e : x = nI (tl T L p) := e
    subst e
    have q1 : ∀ a, a ≠ 0 → a ≠ 11 → S1 a = S a := q1
    have q2 : ∀ j, j ≠ 14 → S1 0 j = S 0 j := q2
    have q3 : ∀ j, j ≠ 3 * s + 2 → S1 11 j = S 11 j := q3
    have q4 : S1 0 14 = nI (f + (p + 3 + tl T L p)) := q4
    have q5 : S1 11 (3 * s + 2) = nI (wvn (fun l => T (p + 3 + l) == 49) (tl T L p)) := q5
    have hT : TM S1 f n T := h.fr (q1 3 (by decide) (by decide))
    show ∃ t, i_X7_readSwitch_132 S1 (nI (f + n)) (nI (3 * s)) (nI (tl T L p)) = some (.inr t) ∧ _
    unfold i_X7_readSwitch_132
    rw [q2 15 (by decide), h15]
    by_cases hc : tl T L p < L
    · rw [if_neg (by rw [nle (by omega) (by omega)]; omega), show f_X7_digit S1 (nI (f + n)) (0 : Int32) (1 : Int32) = _ from M_dig (a := 0) (b := 1) hT q4 (by omega) (by decide) (by decide), bd_s, if_neg (show ¬ inB (T (p + 3 + tl T L p)) (nI (48 + 0)) (nI (48 + 1)) = true from fun z => by
        have := tl_hi hc
        rw [show inB (T (p + 3 + tl T L p)) 48 49 = true from z] at this
        exact absurd this (by decide))]
      exact ⟨_, rfl, Or.inl ⟨hc, S1, rfl, q1, q2, q3, q4⟩⟩
    · rw [if_pos (by rw [nle (by omega) (by omega)]; omega)]
      have et : tl T L p = L := by omega
      rw [et] at q4 q5
      exact ⟨_, rfl, Or.inr ⟨hc, _, rfl, q1, q2, q3, q4, q5⟩⟩
theorem M_rsw {S : St} {f n p L s : Nat} {T : Nat → Int32} (h : TM S f n T) (hp : S 0 14 = nI (f + (p + 1))) (hp1 : p < 100) (h15 : S 0 15 = nI L) (hL : L ≤ 5) (h16 : S 0 16 = nI s) (hs : s < 5) : ∃ b S', f_X7_readSwitch S (nI (f + n)) = some (b, S') ∧ (∀ a, a ≠ 0 → a ≠ 11 → S' a = S a) ∧ (∀ j, j ≠ 14 → j ≠ 16 → S' 0 j = S 0 j) ∧ (∀ j, j < 3 * s → S' 11 j = S 11 j) ∧
    ((b = true ∧ swr T L p = none ∧ S' 0 14 = nI (f + (p + 3 + L)) ∧ S' 0 16 = nI (s + 1) ∧ S' 11 (3 * s) = knd (T (p + 1)) ∧ S' 11 (3 * s + 1) = T (p + 2) - 48 ∧ S' 11 (3 * s + 2) = nI (wvn (fun l => T (p + 3 + l) == 49) L)) ∨ (b = false ∧ ∃ q, swr T L p = some q ∧ S' 0 14 = nI (f + q))) := by
  have e66 : f_X7_readSwitch S (nI (f + n)) = j_X7_readSwitch_66 S (nI (f + n)) (nI (3 * s)) (knd (T (p + 1))) (nI (3 * s)) := by
    obtain ⟨h1, h2, h3, h4⟩ := id h
    have e3 : (3 : Int32) * nI s = nI (3 * s) := pk_mul 3 s
    unfold f_X7_readSwitch
    rw [hp]
    by_cases e : n ≤ p + 1
    · rw [if_pos (by rw [nle (by omega) (by omega)]; omega), M_kind, h16, e3, h4 (p + 1) e]
      rfl
    · rw [if_neg (by rw [nle (by omega) (by omega)]; omega), ck_t (okn (by omega) (by decide)), M_kind, h16, e3, ixn (j := f + (p + 1)) (by omega), h1 (p + 1) (by omega)]
  rw [e66]
  unfold j_X7_readSwitch_66 swr
  have a1 : (up S 11 (3 * s) (knd (T (p + 1)))) 11 (3 * s) = knd (T (p + 1)) := by rw [up_row, if_pos rfl]
  have a2 : (up S 11 (3 * s) (knd (T (p + 1)))) 0 14 = nI (f + (p + 1)) := by rw [up_ne _ _ _ _ (by decide), hp]
  simp only [nadd1, nadd2, ck_t (okn (j := 3 * s) (n := 15) (by omega) (by decide)), ck_t (okn (j := 3 * s + 1) (n := 15) (by omega) (by decide)), ck_t (okn (j := 3 * s + 2) (n := 15) (by omega) (by decide)), ixn (j := 3 * s) (by omega), ixn (j := 3 * s + 1) (by omega), ixn (j := 3 * s + 2) (by omega), a1, a2]
  by_cases c1 : knd (T (p + 1)) = -9
  · rw [if_pos c1, if_pos c1]
    refine ⟨_, _, rfl, fun a b1 b2 => up_ne _ _ _ _ b2, fun j _ _ => by rw [up_ne _ _ _ _ (by decide)], fun j hj => by rw [up_row, if_neg (by omega)], Or.inr ⟨rfl, _, rfl, a2⟩⟩
  · rw [if_neg c1, if_neg c1]
    obtain ⟨S2, hS2⟩ : ∃ S2, S2 = up (up S 11 (3 * s) (knd (T (p + 1)))) 0 14 (nI (f + (p + 1) + 1)) := ⟨_, rfl⟩
    rw [← hS2]
    have b1 : ∀ a, a ≠ 0 → a ≠ 11 → S2 a = S a := fun a x y => by rw [hS2, up_ne _ _ _ _ x, up_ne _ _ _ _ y]
    have b2 : S2 0 14 = nI (f + (p + 2)) := by rw [hS2, up_row, if_pos rfl]; rfl
    have b3 : ∀ j, j ≠ 14 → S2 0 j = S 0 j := fun j hj => by rw [hS2, up_row, if_neg hj, up_ne _ _ _ _ (by decide)]
    have b4 : ∀ j, S2 11 j = if j = 3 * s then knd (T (p + 1)) else S 11 j := fun j => by rw [hS2, up_ne _ _ _ _ (by decide), up_row]
    have hT2 : TM S2 f n T := h.fr (b1 3 (by decide) (by decide))
    rw [show f_X7_digit S2 (nI (f + n)) (1 : Int32) (4 : Int32) = _ from M_dig (a := 1) (b := 4) hT2 b2 (by omega) (by decide) (by decide), bd_s]
    by_cases c2 : inB (T (p + 2)) 49 52 = true
    · rw [if_pos (show inB (T (p + 2)) (nI (48 + 1)) (nI (48 + 4)) = true from c2), if_pos c2]
      obtain ⟨d1, d2, d3⟩ := dig_ok (a := 49) (b := 52) (by decide) (by decide) (by decide) c2
      obtain ⟨S4, hS4⟩ : ∃ S4, S4 = up (up S2 0 14 (nI (f + (p + 2) + 1))) 11 (3 * s + 1) (T (p + 2) - 48) := ⟨_, rfl⟩
      have g1 : ∀ a, a ≠ 0 → a ≠ 11 → S4 a = S a := fun a x y => by rw [hS4, up_ne _ _ _ _ y, up_ne _ _ _ _ x, b1 a x y]
      have g2 : S4 0 14 = nI (f + (p + 3)) := by rw [hS4, up_ne _ _ _ _ (by decide), up_row, if_pos rfl]; rfl
      have g3 : ∀ j, j ≠ 14 → S4 0 j = S 0 j := fun j hj => by rw [hS4, up_ne _ _ _ _ (by decide), up_row, if_neg hj, b3 j hj]
      have g4 : ∀ j, S4 11 j = if j = 3 * s + 1 then T (p + 2) - 48 else if j = 3 * s then knd (T (p + 1)) else S 11 j := fun j => by rw [hS4, up_row, up_ne _ _ _ _ (by decide), b4]
      show ∃ b S', (if (up (up S2 0 14 (nI (f + (p + 2) + 1))) 11 (3 * s + 1) (T (p + 2) - 48)) 11 (3 * s + 1) = -9 then some (false, up (up S2 0 14 (nI (f + (p + 2) + 1))) 11 (3 * s + 1) (T (p + 2) - 48)) else (bd (iter (fun q : St × Int32 => i_X7_readSwitch_132 q.1 (nI (f + n)) (nI (3 * s)) q.2) BIG (up (up (up S2 0 14 (nI (f + (p + 2) + 1))) 11 (3 * s + 1) (T (p + 2) - 48)) 11 (3 * s + 2) (0 : Int32), (0 : Int32))) fun u132 => sm u132 (fun q132 => some (true, up q132.1 0 16 ((q132.1 0 16) + ((1 : Int32))))) fun w132 => some w132)) = some (b, S') ∧ _
      rw [← hS4, if_neg (show ¬ S4 11 (3 * s + 1) = -9 by rw [g4, if_pos rfl, d1]; exact m9 (by omega))]
      have w1 : ∀ a, a ≠ 11 → (up S4 11 (3 * s + 2) (0 : Int32)) a = S4 a := fun a ha => up_ne _ _ _ _ ha
      obtain ⟨u, u1, u2⟩ := M_wires (S := up S4 11 (3 * s + 2) (0 : Int32)) (s := s) (p := p) (L := L) (h.fr (by rw [w1 3 (by decide), g1 3 (by decide) (by decide)])) (by rw [w1 0 (by decide)]; exact g2) hp1 (by rw [w1 0 (by decide), g3 15 (by decide)]; exact h15) hL hs (by rw [up_row, if_pos rfl])
      have w2 : ∀ j, j ≠ 3 * s + 2 → (up S4 11 (3 * s + 2) (0 : Int32)) 11 j = S4 11 j := fun j hj => by rw [up_row, if_neg hj]
      rw [u1, bd_s]
      rcases u2 with ⟨v1, S5, v2, v3, v4, v5, v6⟩ | ⟨v1, q, v2, v3, v4, v5, v6, v7⟩
      · rw [v2, sm_o, if_pos v1]
        refine ⟨_, _, rfl, fun a x y => by rw [v3 a x y, w1 a y, g1 a x y], fun j x y => by rw [v4 j x, w1 0 (by decide), g3 j x], fun j hj => by rw [v5 j (by omega), w2 j (by omega), g4, if_neg (by omega), if_neg (by omega)], Or.inr ⟨rfl, _, rfl, v6⟩⟩
      · rw [v2, sm_i, if_neg v1]
        refine ⟨_, _, rfl, fun a x y => by rw [up_ne _ _ _ _ x, v3 a x y, w1 a y, g1 a x y], fun j x y => by rw [up_row, if_neg y, v4 j x, w1 0 (by decide), g3 j x], fun j hj => by rw [up_ne _ _ _ _ (by decide), v5 j (by omega), w2 j (by omega), g4, if_neg (by omega), if_neg (by omega)], Or.inl ⟨rfl, rfl, ?_, ?_, ?_, ?_, ?_⟩⟩
        · rw [up_row, if_neg (by decide), v6]
        · rw [up_row, if_pos rfl, v4 16 (by decide), w1 0 (by decide), g3 16 (by decide), h16, nadd1]
        · rw [up_ne _ _ _ _ (by decide), v5 _ (by omega), w2 _ (by omega), g4, if_neg (by omega), if_pos rfl]
        · rw [up_ne _ _ _ _ (by decide), v5 _ (by omega), w2 _ (by omega), g4, if_pos rfl]
        · rw [up_ne _ _ _ _ (by decide), v7]
    · rw [if_neg (show ¬ inB (T (p + 2)) (nI (48 + 1)) (nI (48 + 4)) = true from c2), if_neg c2]
      show ∃ b S', (if (up S2 11 (3 * s + 1) (-9 : Int32)) 11 (3 * s + 1) = -9 then some (false, up S2 11 (3 * s + 1) (-9 : Int32)) else _) = some (b, S') ∧ _
      rw [if_pos (by rw [up_row, if_pos rfl])]
      refine ⟨_, _, rfl, fun a x y => by rw [up_ne _ _ _ _ y, b1 a x y], fun j x y => by rw [up_ne _ _ _ _ (by decide), b3 j x], fun j hj => by rw [up_row, if_neg (by omega), b4, if_neg (by omega)], Or.inr ⟨rfl, _, rfl, by rw [up_ne _ _ _ _ (by decide)]; exact b2⟩⟩
