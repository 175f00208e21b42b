/-! a whole text, by the reference -/
def LPs (T : Nat → Int32) (S : St) (f l : Nat) (q : St × Int32) : Prop := q.1 0 15 = nI l ∧ q.1 0 16 = nI 0 ∧ (∀ j, j < l → q.1 10 j = T (1 + j) - 48) ∧ (∀ a, a ≠ 0 → a ≠ 10 → q.1 a = S a) ∧ (∀ j, j ≠ 14 → j ≠ 15 → j ≠ 16 → q.1 0 j = S 0 j) ∧ ((l < 5 ∧ inB (T (1 + l)) 50 53 = true) → q.2 = T (1 + l) - 48 ∧ q.1 0 14 = nI (f + (1 + l + 1))) ∧ (¬ (l < 5 ∧ inB (T (1 + l)) 50 53 = true) → q.2 = -9 ∧ q.1 0 14 = nI (f + (1 + l)))
theorem M_next {S S1 : St} {f n l : Nat} {T : Nat → Int32} (h : TM S f n T) (hl : l < 5) (h1 : S1 0 15 = nI l) (h2 : S1 0 16 = nI 0) (h3 : ∀ j, j < l → S1 10 j = T (1 + j) - 48) (h4 : ∀ a, a ≠ 0 → a ≠ 10 → S1 a = S a) (h5 : ∀ j, j ≠ 14 → j ≠ 15 → j ≠ 16 → S1 0 j = S 0 j) (h6 : S1 0 14 = nI (f + (1 + l))) : ∃ v S2, f_X7_digit S1 (nI (f + n)) (2 : Int32) (5 : Int32) = some (v, S2) ∧ LPs T S f l (S2, v) := by
  have hT : TM S1 f n T := h.fr (h4 3 (by decide) (by decide))
  rw [show f_X7_digit S1 (nI (f + n)) (2 : Int32) (5 : Int32) = _ from M_dig (a := 2) (b := 5) hT h6 (by omega) (by decide) (by decide)]
  by_cases e : inB (T (1 + l)) 50 53 = true
  · rw [if_pos (show inB (T (1 + l)) (nI (48 + 2)) (nI (48 + 5)) = true from e)]
    refine ⟨_, _, rfl, ?_, ?_, fun j hj => ?_, fun a x y => ?_, fun j x y z => ?_, fun _ => ⟨rfl, ?_⟩, fun q => absurd ⟨hl, e⟩ q⟩
    · show (up S1 0 14 (nI (f + (1 + l) + 1))) 0 15 = nI l
      rw [up_row, if_neg (by decide), h1]
    · show (up S1 0 14 (nI (f + (1 + l) + 1))) 0 16 = nI 0
      rw [up_row, if_neg (by decide), h2]
    · show (up S1 0 14 (nI (f + (1 + l) + 1))) 10 j = _
      rw [up_ne _ _ _ _ (by decide)]; exact h3 j hj
    · show (up S1 0 14 (nI (f + (1 + l) + 1))) a = S a
      rw [up_ne _ _ _ _ x]; exact h4 a x y
    · show (up S1 0 14 (nI (f + (1 + l) + 1))) 0 j = S 0 j
      rw [up_row, if_neg x]; exact h5 j x y z
    · show (up S1 0 14 (nI (f + (1 + l) + 1))) 0 14 = nI (f + (1 + l + 1))
      rw [up_row, if_pos rfl]
      rfl
  · rw [if_neg (show ¬ inB (T (1 + l)) (nI (48 + 2)) (nI (48 + 5)) = true from e)]
    exact ⟨_, _, rfl, h1, h2, h3, h4, h5, fun q => absurd q.2 e, fun _ => ⟨rfl, h6⟩⟩
theorem M_lamps {S S0 : St} {f n : Nat} {T : Nat → Int32} {v : Int32} (h : TM S f n T) (h0 : LPs T S f 0 (S0, v)) : ∃ t, iter (fun q : St × Int32 => i_X7_readHall_30 q.1 (nI (f + n)) q.2) BIG (S0, v) = some t ∧ LPs T S f (tL T) t := by
  have hL := tL_le T
  refine iter_rel (fun l (q : St × Int32) => LPs T S f l q) _ (tL T) ?_ ?_ _ h0 (by have := bigN; omega)
  · intro l q hl hq
    obtain ⟨S1, x⟩ := q
    obtain ⟨q1, q2, q3, q4, q5, q6, q7⟩ := hq
    have q1 : S1 0 15 = nI l := q1
    have q2 : S1 0 16 = nI 0 := q2
    have q3 : ∀ j, j < l → S1 10 j = T (1 + j) - 48 := q3
    have q4 : ∀ a, a ≠ 0 → a ≠ 10 → S1 a = S a := q4
    have q5 : ∀ j, j ≠ 14 → j ≠ 15 → j ≠ 16 → S1 0 j = S 0 j := q5
    have hin := tL_lo hl
    obtain ⟨q8, q9⟩ := q6 ⟨by omega, hin⟩
    have q8 : x = T (1 + l) - 48 := q8
    have q9 : S1 0 14 = nI (f + (1 + l + 1)) := q9
    obtain ⟨d1, d2, d3⟩ := dig_ok (a := 50) (b := 53) (by decide) (by decide) (by decide) hin
    have e15 : (up S1 10 l x) 0 15 = nI l := by rw [up_ne _ _ _ _ (by decide), q1]
    obtain ⟨S2, hS2⟩ : ∃ S2, S2 = up (up S1 10 l x) 0 15 (nI (l + 1)) := ⟨_, rfl⟩
    have g1 : S2 0 15 = nI (l + 1) := by rw [hS2, up_row, if_pos rfl]
    have g2 : S2 0 16 = nI 0 := by rw [hS2, up_row, if_neg (by decide), up_ne _ _ _ _ (by decide), q2]
    have g3 : ∀ j, j < l + 1 → S2 10 j = T (1 + j) - 48 := fun j hj => by
      rw [hS2, up_ne _ _ _ _ (by decide), up_row]
      by_cases r : j = l
      · rw [if_pos r, r, q8]
      · rw [if_neg r]; exact q3 j (by omega)
    have g4 : ∀ a, a ≠ 0 → a ≠ 10 → S2 a = S a := fun a x y => by rw [hS2, up_ne _ _ _ _ x, up_ne _ _ _ _ y, q4 a x y]
    have g5 : ∀ j, j ≠ 14 → j ≠ 15 → j ≠ 16 → S2 0 j = S 0 j := fun j x y z => by rw [hS2, up_row, if_neg y, up_ne _ _ _ _ (by decide), q5 j x y z]
    have g6 : S2 0 14 = nI (f + (1 + (l + 1))) := by rw [hS2, up_row, if_neg (by decide), up_ne _ _ _ _ (by decide), q9]; rfl
    show ∃ s', i_X7_readHall_30 S1 (nI (f + n)) x = some (.inl s') ∧ LPs T S f (l + 1) s'
    unfold i_X7_readHall_30
    rw [if_neg (show ¬ x = -9 by rw [q8, d1]; exact m9 (by omega)), q1]
    simp only [ixn (j := l) (by omega), ck_t (okn (j := l) (n := 5) (by omega) (by decide)), e15, nadd1]
    rw [← hS2, g1]
    by_cases c5 : 5 ≤ l + 1
    · rw [if_pos (show (5 : Int32) ≤ nI (l + 1) by rw [n5, nle (by decide) (by omega)]; exact c5)]
      exact ⟨_, rfl, g1, g2, g3, g4, g5, fun q => absurd q.1 (by omega), fun _ => ⟨rfl, g6⟩⟩
    · rw [if_neg (show ¬ (5 : Int32) ≤ nI (l + 1) by rw [n5, nle (by decide) (by omega)]; exact c5)]
      obtain ⟨w, S3, w1, w2⟩ := M_next h (l := l + 1) (by omega) g1 g2 g3 g4 g5 g6
      rw [w1, bd_s]
      exact ⟨_, rfl, w2⟩
  · intro q hq
    obtain ⟨S1, x⟩ := q
    have hno : ¬ (tL T < 5 ∧ inB (T (1 + tL T)) 50 53 = true) := fun q => by
      have := tL_hi q.1
      rw [q.2] at this
      exact absurd this (by decide)
    have e9 : x = -9 := (hq.2.2.2.2.2.2 hno).1
    refine ⟨(S1, x), ?_, hq⟩
    show i_X7_readHall_30 S1 (nI (f + n)) x = _
    unfold i_X7_readHall_30
    rw [if_pos e9]
def SP (T : Nat → Int32) (S : St) (f L s : Nat) (S1 : St) : Prop := S1 0 14 = nI (f + tp L s) ∧ S1 0 15 = nI L ∧ S1 0 16 = nI s ∧ (∀ a, a ≠ 0 → a ≠ 11 → S1 a = S a) ∧ (∀ j, j ≠ 14 → j ≠ 16 → S1 0 j = S 0 j) ∧ ∀ r, r < s → S1 11 (3 * r) = knd (T (tp L r + 1)) ∧ S1 11 (3 * r + 1) = T (tp L r + 2) - 48 ∧ S1 11 (3 * r + 2) = nI (wvn (fun l => T (tp L r + 3 + l) == 49) L)
theorem M_one {S S1 : St} {f n L s : Nat} {T : Nat → Int32} (h : TM S f n T) (hL : L ≤ 5) (hs : s < 5) (hP : SP T S f L s S1) : ∃ u, j_X7_readHall_112 S1 (nI (f + n)) = some u ∧ ((swf T L (tp L s) = none ∧ ∃ S2, u = .inl S2 ∧ SP T S f L (s + 1) S2) ∨ ∃ q S2, swf T L (tp L s) = some q ∧ u = .inr (.inr (false, S2)) ∧ (∀ a, a ≠ 0 → a ≠ 11 → S2 a = S a) ∧ (∀ j, j ≠ 14 → j ≠ 16 → S2 0 j = S 0 j) ∧ S2 0 14 = nI (f + q)) := by
  obtain ⟨p1, p2, p3, p4, p5, p6⟩ := hP
  have hp := tp_le hL (show s ≤ 5 by omega)
  have hT : TM S1 f n T := h.fr (p4 3 (by decide) (by decide))
  unfold j_X7_readHall_112
  rw [show f_X7_isSign S1 (nI (f + n)) (59 : Int32) = _ from M_sign (c := 59) hT p1 (by omega) (by decide), bd_s, swf_eq]
  by_cases c1 : T (tp L s) = 59
  · rw [if_pos (show T (tp L s) = nI 59 from c1), if_pos c1]
    obtain ⟨S2, hS2⟩ : ∃ S2, S2 = up S1 0 14 (nI (f + tp L s + 1)) := ⟨_, rfl⟩
    have g0 : ∀ a, a ≠ 0 → S2 a = S1 a := fun a ha => by rw [hS2, up_ne _ _ _ _ ha]
    have g1 : ∀ j, j ≠ 14 → S2 0 j = S1 0 j := fun j hj => by rw [hS2, up_row, if_neg hj]
    have g2 : S2 0 14 = nI (f + (tp L s + 1)) := by rw [hS2, up_row, if_pos rfl]; rfl
    obtain ⟨b, S3, r1, r2, r3, r4, r5⟩ := M_rsw (S := S2) (p := tp L s) (hT.fr (g0 3 (by decide))) g2 (by omega) (by rw [g1 15 (by decide)]; exact p2) hL (by rw [g1 16 (by decide)]; exact p3) hs
    have r1' : f_X7_readSwitch (true, S2).2 (nI (f + n)) = some (b, S3) := r1
    rw [← hS2, if_neg (show ¬ (true, S2).1 = false from fun q => by cases q), r1', bd_s]
    have fa : ∀ a, a ≠ 0 → a ≠ 11 → S3 a = S a := fun a x y => by rw [r2 a x y, g0 a x, p4 a x y]
    have fj : ∀ j, j ≠ 14 → j ≠ 16 → S3 0 j = S 0 j := fun j x y => by rw [r3 j x y, g1 j x, p5 j x y]
    rcases r5 with ⟨z0, z1, z2, z3, z4, z5, z6⟩ | ⟨z0, q, z1, z2⟩
    · subst z0
      rw [if_pos rfl]
      refine ⟨_, rfl, Or.inl ⟨z1, S3, rfl, by rw [z2, tp_succ], by rw [r3 15 (by decide) (by decide), g1 15 (by decide)]; exact p2, z3, fa, fj, fun r hr => ?_⟩⟩
      by_cases e : r = s
      · rw [e]
        exact ⟨z4, z5, z6⟩
      · rw [r4 _ (by omega), r4 _ (by omega), r4 _ (by omega), g0 11 (by decide)]
        exact p6 r (by omega)
    · subst z0
      rw [if_neg (show ¬ (false, S3).1 = true from fun q => by cases q)]
      exact ⟨_, rfl, Or.inr ⟨q, S3, z1, rfl, fa, fj, z2⟩⟩
  · rw [if_neg (show ¬ T (tp L s) = nI 59 from c1), if_neg c1, if_pos rfl]
    exact ⟨_, rfl, Or.inr ⟨_, S1, rfl, rfl, p4, p5, p1⟩⟩
theorem M_readHall {S : St} {f n : Nat} {T : Nat → Int32} (h : TM S f n T) (h14 : S 0 14 = nI (f + 0)) : ∃ b S', f_X7_readHall S (nI (f + n)) = some (b, S') ∧ (∀ a, a ≠ 0 → a ≠ 10 → a ≠ 11 → S' a = S a) ∧ (∀ j, j ≠ 14 → j ≠ 15 → j ≠ 16 → S' 0 j = S 0 j) ∧ ((b = true ∧ tF T n = none ∧ S' 0 15 = nI (tL T) ∧ S' 0 16 = nI (tS T n (tL T)) ∧ (∀ l, l < tL T → S' 10 l = T (1 + l) - 48) ∧ ∀ s, s < tS T n (tL T) → S' 11 (3 * s) = knd (T (tp (tL T) s + 1)) ∧ S' 11 (3 * s + 1) = T (tp (tL T) s + 2) - 48 ∧ S' 11 (3 * s + 2) = nI (wvn (fun l => T (tp (tL T) s + 3 + l) == 49) (tL T))) ∨ (b = false ∧ ∃ q, tF T n = some q ∧ S' 0 14 = nI (f + q))) := by
  have hL := tL_le T
  obtain ⟨S0, hS0⟩ : ∃ S0, S0 = up (up S 0 15 (0 : Int32)) 0 16 (0 : Int32) := ⟨_, rfl⟩
  have a1 : ∀ a, a ≠ 0 → S0 a = S a := fun a ha => by rw [hS0, up_ne _ _ _ _ ha, up_ne _ _ _ _ ha]
  have a2 : ∀ j, j ≠ 15 → j ≠ 16 → S0 0 j = S 0 j := fun j x y => by rw [hS0, up_row, if_neg y, up_row, if_neg x]
  have a3 : S0 0 15 = nI 0 := by rw [hS0, up_row, if_neg (by decide), up_row, if_pos rfl]; rfl
  have a4 : S0 0 16 = nI 0 := by rw [hS0, up_row, if_pos rfl]; rfl
  unfold f_X7_readHall
  rw [← hS0, show f_X7_isSign S0 (nI (f + n)) (108 : Int32) = _ from M_sign (c := 108) (h.fr (a1 3 (by decide))) (by rw [a2 14 (by decide) (by decide)]; exact h14) (by decide) (by decide), bd_s]
  unfold tF
  by_cases c0 : T 0 = 108
  · rw [if_pos (show T 0 = nI 108 from c0), if_pos c0]
    obtain ⟨S1, hS1⟩ : ∃ S1, S1 = up S0 0 14 (nI (f + 0 + 1)) := ⟨_, rfl⟩
    have g0 : ∀ a, a ≠ 0 → S1 a = S a := fun a ha => by rw [hS1, up_ne _ _ _ _ ha, a1 a ha]
    have g1 : ∀ j, j ≠ 14 → S1 0 j = S0 0 j := fun j hj => by rw [hS1, up_row, if_neg hj]
    have g2 : S1 0 14 = nI (f + (1 + 0)) := by rw [hS1, up_row, if_pos rfl]
    show ∃ b S', (if (true, up S0 0 14 (nI (f + 0 + 1))).1 = true then (bd (f_X7_digit (up S0 0 14 (nI (f + 0 + 1))) (nI (f + n)) ((2 : Int32)) ((5 : Int32))) fun r26 => bd (iter (fun q : St × Int32 => i_X7_readHall_30 q.1 (nI (f + n)) q.2) BIG (r26.2, r26.1)) fun q30 => if (q30.1 0 15) = 0 then (some (false, q30.1)) else (bd (iter (fun q => i_X7_readHall_89 q (nI (f + n))) BIG q30.1) fun u89 => sm u89 (fun q89 => if (q89 0 14) = (nI (f + n)) then (some (true, q89)) else (some (false, q89))) fun w89 => some w89)) else _) = some (b, S') ∧ _
    rw [if_pos rfl, ← hS1]
    obtain ⟨v, S2, v1, v2⟩ := M_next h (S1 := S1) (l := 0) (by decide) (by rw [g1 15 (by decide)]; exact a3) (by rw [g1 16 (by decide)]; exact a4) (fun j hj => absurd hj (Nat.not_lt_zero j)) (fun a x y => g0 a x) (fun j x y z => by rw [g1 j x, a2 j y z]) g2
    obtain ⟨t, t1, t2⟩ := M_lamps h v2
    rw [v1, bd_s]
    show ∃ b S', (bd (iter (fun q : St × Int32 => i_X7_readHall_30 q.1 (nI (f + n)) q.2) BIG (S2, v)) fun q30 => if (q30.1 0 15) = 0 then (some (false, q30.1)) else (bd (iter (fun q => i_X7_readHall_89 q (nI (f + n))) BIG q30.1) fun u89 => sm u89 (fun q89 => if (q89 0 14) = (nI (f + n)) then (some (true, q89)) else (some (false, q89))) fun w89 => some w89)) = some (b, S') ∧ _
    rw [t1, bd_s]
    obtain ⟨q1, q2, q3, q4, q5, q6, q7⟩ := t2
    have hno : ¬ (tL T < 5 ∧ inB (T (1 + tL T)) 50 53 = true) := fun q => by
      have := tL_hi q.1
      rw [q.2] at this
      exact absurd this (by decide)
    have q8 := (q7 hno).2
    obtain ⟨S3, x3⟩ := t
    have q1 : S3 0 15 = nI (tL T) := q1
    have q2 : S3 0 16 = nI 0 := q2
    have q3 : ∀ j, j < tL T → S3 10 j = T (1 + j) - 48 := q3
    have q4 : ∀ a, a ≠ 0 → a ≠ 10 → S3 a = S a := q4
    have q5 : ∀ j, j ≠ 14 → j ≠ 15 → j ≠ 16 → S3 0 j = S 0 j := q5
    have q8 : S3 0 14 = nI (f + (1 + tL T)) := q8
    show ∃ b S', (if (S3 0 15) = 0 then (some (false, S3)) else (bd (iter (fun q => i_X7_readHall_89 q (nI (f + n))) BIG S3) fun u89 => sm u89 (fun q89 => if (q89 0 14) = (nI (f + n)) then (some (true, q89)) else (some (false, q89))) fun w89 => some w89)) = some (b, S') ∧ _
    rw [q1]
    by_cases eL : tL T = 0
    · rw [eL, if_pos (show nI 0 = (0 : Int32) from rfl), if_pos rfl]
      refine ⟨_, S3, rfl, fun a x y _ => q4 a x y, q5, Or.inr ⟨rfl, 1, rfl, ?_⟩⟩
      rw [q8, eL]
    rw [if_neg (show ¬ nI (tL T) = (0 : Int32) from nI_ne0 (by omega) (by omega)), if_neg eL]
    have hT3 : TM S3 f n T := h.fr (q4 3 (by decide) (by decide))
    generalize tL T = L at *
    have hSl := tS_le T n L
    have hn60 := h.2.2.1
    have hf := h.2.1
    have st : ∀ s S1, s < 5 → SP T S3 f L s S1 → i_X7_readHall_89 S1 (nI (f + n)) = if s = 0 ∨ tp L s < n then j_X7_readHall_112 S1 (nI (f + n)) else some (.inr (.inl S1)) := by
      intro s S1 hs hP
      have hp := tp_le hL (show s ≤ 5 by omega)
      unfold i_X7_readHall_89
      rw [hP.2.2.1]
      by_cases e : s = 0
      · rw [if_pos (show nI s = (0 : Int32) by rw [e]; rfl), if_pos (Or.inl e)]
      · rw [if_neg (show ¬ nI s = (0 : Int32) from nI_ne0 (by omega) (by omega)), if_neg (show ¬ (5 : Int32) ≤ nI s by rw [n5, nle (by decide) (by omega)]; omega), hP.1]
        by_cases r : tp L s < n
        · rw [if_neg (by rw [nle (by omega) (by omega)]; omega), if_pos (Or.inr r)]
        · rw [if_pos (by rw [nle (by omega) (by omega)]; omega), if_neg (by omega)]
    have hP0 : SP T S3 f L 0 S3 := ⟨by rw [q8]; unfold tp; rw [Nat.zero_mul, Nat.add_zero], q1, q2, fun _ _ _ => rfl, fun _ _ _ => rfl, fun r hr => absurd hr (Nat.not_lt_zero r)⟩
    obtain ⟨u, u1, u2⟩ := iter_rel (it := fun q => i_X7_readHall_89 q (nI (f + n))) (fun s S1 => SP T S3 f L s S1) (fun u => (∃ q S2, (tS T n L < 5 ∧ (tS T n L = 0 ∨ tp L (tS T n L) < n)) ∧ swf T L (tp L (tS T n L)) = some q ∧ u = .inr (false, S2) ∧ (∀ a, a ≠ 0 → a ≠ 11 → S2 a = S3 a) ∧ (∀ j, j ≠ 14 → j ≠ 16 → S2 0 j = S3 0 j) ∧ S2 0 14 = nI (f + q)) ∨ ∃ S2, ¬ (tS T n L < 5 ∧ (tS T n L = 0 ∨ tp L (tS T n L) < n)) ∧ u = .inl S2 ∧ SP T S3 f L (tS T n L) S2) (tS T n L) (by
      intro s S1 hs hP
      obtain ⟨k1, k2⟩ := tS_lo hs
      obtain ⟨w, w1, w2⟩ := M_one hT3 hL (show s < 5 by omega) hP
      rcases w2 with ⟨_, S2, w3, w4⟩ | ⟨q, S2, w3, _⟩
      · exact ⟨S2, by show i_X7_readHall_89 S1 (nI (f + n)) = _; rw [st s S1 (by omega) hP, if_pos k2, w1, w3], w4⟩
      · rw [k1] at w3
        cases w3) (by
      intro S1 hP
      by_cases hc : tS T n L < 5 ∧ (tS T n L = 0 ∨ tp L (tS T n L) < n)
      · obtain ⟨q0, hq0⟩ := tS_hi hc.1 hc.2
        obtain ⟨w, w1, w2⟩ := M_one hT3 hL hc.1 hP
        rcases w2 with ⟨w3, _⟩ | ⟨q, S2, w3, w4, w5, w6, w7⟩
        · rw [hq0] at w3
          cases w3
        · exact ⟨_, by show i_X7_readHall_89 S1 (nI (f + n)) = _; rw [st _ S1 hc.1 hP, if_pos hc.2, w1, w4], Or.inl ⟨q, S2, hc, w3, rfl, w5, w6, w7⟩⟩
      · refine ⟨.inl S1, ?_, Or.inr ⟨S1, hc, rfl, hP⟩⟩
        show i_X7_readHall_89 S1 (nI (f + n)) = _
        by_cases c5 : tS T n L < 5
        · rw [st _ S1 c5 hP, if_neg (fun z => hc ⟨c5, z⟩)]
        · unfold i_X7_readHall_89
          rw [hP.2.2.1, if_neg (show ¬ nI (tS T n L) = (0 : Int32) from nI_ne0 (by omega) (by omega)), if_pos (show (5 : Int32) ≤ nI (tS T n L) by rw [n5, nle (by decide) (by omega)]; omega)]) S3 hP0 (by have := bigN; omega)
    rw [u1, bd_s]
    rcases u2 with ⟨q, S4, c1, c2, c3, c4, c5, c6⟩ | ⟨S4, c1, c2, c3⟩
    · rw [c3, sm_o, if_pos c1]
      refine ⟨_, S4, rfl, fun a x y z => by rw [c4 a x z, q4 a x y], fun j x y z => by rw [c5 j x z, q5 j x y z], Or.inr ⟨rfl, q, c2, c6⟩⟩
    · rw [c2, sm_i, if_neg c1]
      obtain ⟨p1, p2, p3, p4, p5, p6⟩ := c3
      have hp := tp_le hL hSl
      have fa : ∀ a, a ≠ 0 → a ≠ 10 → a ≠ 11 → S4 a = S a := fun a x y z => by rw [p4 a x z, q4 a x y]
      have fj : ∀ j, j ≠ 14 → j ≠ 15 → j ≠ 16 → S4 0 j = S 0 j := fun j x y z => by rw [p5 j x z, q5 j x y z]
      rw [p1]
      by_cases e : tp L (tS T n L) = n
      · rw [if_pos (show nI (f + tp L (tS T n L)) = nI (f + n) by rw [e]), if_pos e]
        exact ⟨_, S4, rfl, fa, fj, Or.inl ⟨rfl, rfl, p2, p3, fun l hl => by rw [p4 10 (by decide) (by decide)]; exact q3 l hl, p6⟩⟩
      · rw [if_neg (show ¬ nI (f + tp L (tS T n L)) = nI (f + n) by rw [neq (by omega) (by omega)]; omega), if_neg e]
        exact ⟨_, S4, rfl, fa, fj, Or.inr ⟨rfl, _, rfl, p1⟩⟩
  · rw [if_neg (show ¬ T 0 = nI 108 from c0), if_neg c0]
    show ∃ b S', (if (false, S0).1 = true then _ else some (false, S0)) = some (b, S') ∧ _
    rw [if_neg (show ¬ false = true by decide)]
    exact ⟨_, S0, rfl, fun a x _ _ => a1 a x, fun j _ y z => a2 j y z, Or.inr ⟨rfl, 0, rfl, by rw [a2 14 (by decide) (by decide)]; exact h14⟩⟩
theorem M_take {S : St} {n : Nat} {T : Nat → Int32} (hF : tF T n = none) (h15 : S 0 15 = nI (tL T)) (h16 : S 0 16 = nI (tS T n (tL T))) (h10 : ∀ l, l < tL T → S 10 l = T (1 + l) - 48) (h11 : ∀ s, s < tS T n (tL T) → S 11 (3 * s) = knd (T (tp (tL T) s + 1)) ∧ S 11 (3 * s + 1) = T (tp (tL T) s + 2) - 48 ∧ S 11 (3 * s + 2) = nI (wvn (fun l => T (tp (tL T) s + 3 + l) == 49) (tL T))) : ∃ S', f_X7_takeHall S = some S' ∧ MH S' (tD T n) ∧ (∀ l, l < tL T → S' 5 l = 0) ∧ (∀ s, s < tS T n (tL T) → S' 9 s = 0) ∧ S' 0 7 = 0 ∧ S' 0 24 = 0 ∧ (∀ a, a = 1 ∨ a = 2 ∨ a = 3 ∨ 9 < a → S' a = S a) ∧ ∀ j, j ≠ 5 → j ≠ 6 → j ≠ 7 → j ≠ 24 → S' 0 j = S 0 j := by
  have hL := tL_le T
  have hS := tS_le T n (tL T)
  obtain ⟨S0, hS0⟩ : ∃ S0, S0 = up (up S 0 5 (nI (tL T))) 0 6 (nI (tS T n (tL T))) := ⟨_, rfl⟩
  have a1 : ∀ a, a ≠ 0 → S0 a = S a := fun a ha => by rw [hS0, up_ne _ _ _ _ ha, up_ne _ _ _ _ ha]
  have a2 : ∀ j, j ≠ 5 → j ≠ 6 → S0 0 j = S 0 j := fun j x y => by rw [hS0, up_row, if_neg y, up_row, if_neg x]
  have a3 : S0 0 5 = nI (tL T) := by rw [hS0, up_row, if_neg (by decide), up_row, if_pos rfl]
  have a4 : S0 0 6 = nI (tS T n (tL T)) := by rw [hS0, up_row, if_pos rfl]
  unfold f_X7_takeHall
  rw [h15, show (up S 0 5 (nI (tL T))) 0 16 = nI (tS T n (tL T)) by rw [up_row, if_neg (by decide), h16], ← hS0]
  obtain ⟨t, t1, t2, t3⟩ := iter_rel (it := fun q : St × Int32 => i_X7_takeHall_18 q.1 q.2) (fun i q => q.2 = nI i ∧ (∀ l, l < i → q.1 4 l = nI (sh (tD T n) l) ∧ q.1 5 l = 0) ∧ ∀ a, a ≠ 4 → a ≠ 5 → q.1 a = S0 a) (fun t => (∀ l, l < tL T → t.1 4 l = nI (sh (tD T n) l) ∧ t.1 5 l = 0) ∧ ∀ a, a ≠ 4 → a ≠ 5 → t.1 a = S0 a) (tL T) (by
    intro i q hi hq
    obtain ⟨S1, x⟩ := q
    obtain ⟨e, hr, hf⟩ := hq
    have e : x = nI i := e
    subst e
    have hr : ∀ l, l < i → S1 4 l = nI (sh (tD T n) l) ∧ S1 5 l = 0 := hr
    have hf : ∀ a, a ≠ 4 → a ≠ 5 → S1 a = S0 a := hf
    obtain ⟨d1, d2, d3⟩ := dig_ok (a := 50) (b := 53) (by decide) (by decide) (by decide) (tL_lo hi)
    have ev : S1 10 i = nI (sh (tD T n) i) := by rw [hf 10 (by decide) (by decide), a1 10 (by decide), h10 i hi]; exact d1
    refine ⟨(up (up S1 4 i (nI (sh (tD T n) i))) 5 i 0, nI (i + 1)), ?_, rfl, fun l hl => ?_, fun a ha hb => ?_⟩
    · show i_X7_takeHall_18 S1 (nI i) = _
      unfold i_X7_takeHall_18
      rw [hf 0 (by decide) (by decide), a3, if_neg (by rw [nle (by omega) (by omega)]; omega)]
      simp only [ck_t (okn (j := i) (n := 5) (by omega) (by decide)), ixn (j := i) (by omega)]
      rw [ev, nadd1]
    · show up (up S1 4 i (nI (sh (tD T n) i))) 5 i 0 4 l = _ ∧ up (up S1 4 i (nI (sh (tD T n) i))) 5 i 0 5 l = 0
      rw [up_ne _ _ _ _ (by decide), up_row, up_row, up_ne _ _ _ _ (by decide)]
      by_cases q : l = i
      · rw [if_pos q, if_pos q, q]
        exact ⟨rfl, rfl⟩
      · rw [if_neg q, if_neg q]
        exact hr l (by omega)
    · show up (up S1 4 i (nI (sh (tD T n) i))) 5 i 0 a = _
      rw [up_ne _ _ _ _ hb, up_ne _ _ _ _ ha]
      exact hf a ha hb) (by
    intro q hq
    obtain ⟨S1, x⟩ := q
    obtain ⟨e, hr, hf⟩ := hq
    have e : x = nI (tL T) := e
    subst e
    have hf : ∀ a, a ≠ 4 → a ≠ 5 → S1 a = S0 a := hf
    refine ⟨(S1, nI (tL T)), ?_, hr, hf⟩
    show i_X7_takeHall_18 S1 (nI (tL T)) = _
    unfold i_X7_takeHall_18
    rw [hf 0 (by decide) (by decide), a3, if_pos (by rw [nle (by omega) (by omega)]; omega)]) (S0, (0 : Int32)) ⟨rfl, fun l hl => absurd hl (Nat.not_lt_zero l), fun _ _ _ => rfl⟩ (by have := bigN; omega)
  rw [t1, bd_s]
  obtain ⟨u, u1, u2, u3⟩ := iter_rel (it := fun q : St × Int32 => i_X7_takeHall_53 q.1 q.2) (fun i q => q.2 = nI i ∧ (∀ s, s < i → (q.1 6 s = nI (kd (tD T n) s) ∧ q.1 7 s = nI (tn (tD T n) s) ∧ q.1 8 s = nI (wr (tD T n) s)) ∧ q.1 9 s = 0) ∧ ∀ a, a < 6 ∨ 9 < a → q.1 a = t.1 a) (fun u => (∀ s, s < tS T n (tL T) → (u.1 6 s = nI (kd (tD T n) s) ∧ u.1 7 s = nI (tn (tD T n) s) ∧ u.1 8 s = nI (wr (tD T n) s)) ∧ u.1 9 s = 0) ∧ ∀ a, a < 6 ∨ 9 < a → u.1 a = t.1 a) (tS T n (tL T)) (by
    intro i q hi hq
    obtain ⟨S1, x⟩ := q
    obtain ⟨e, hr, hf⟩ := hq
    have e : x = nI i := e
    subst e
    have hr : ∀ s, s < i → (S1 6 s = nI (kd (tD T n) s) ∧ S1 7 s = nI (tn (tD T n) s) ∧ S1 8 s = nI (wr (tD T n) s)) ∧ S1 9 s = 0 := hr
    have hf : ∀ a, a < 6 ∨ 9 < a → S1 a = t.1 a := hf
    obtain ⟨k1, k2, k3, k4⟩ := swf_none (tS_lo hi).1
    obtain ⟨d1, d2, d3⟩ := dig_ok (a := 49) (b := 52) (by decide) (by decide) (by decide) k3
    have e11 : S1 11 = S 11 := by rw [hf 11 (by decide), t3 11 (by decide) (by decide), a1 11 (by decide)]
    obtain ⟨v1, v2, v3⟩ := h11 i hi
    have w1 : S1 11 (3 * i) = nI (kd (tD T n) i) := by rw [e11, v1]; exact (knd_ok k2).1
    have w2 : S1 11 (3 * i + 1) = nI (tn (tD T n) i) := by rw [e11, v2]; exact d1
    have w3 : S1 11 (3 * i + 2) = nI (wr (tD T n) i) := by rw [e11, v3]; rfl
    refine ⟨(up (up (up (up S1 6 i (nI (kd (tD T n) i))) 7 i (nI (tn (tD T n) i))) 8 i (nI (wr (tD T n) i))) 9 i 0, nI (i + 1)), ?_, rfl, fun s hs => ?_, fun a ha => ?_⟩
    · show i_X7_takeHall_53 S1 (nI i) = _
      unfold i_X7_takeHall_53
      rw [hf 0 (by decide), t3 0 (by decide) (by decide), a4, if_neg (by rw [nle (by omega) (by omega)]; omega)]
      simp only [show (3 : Int32) * nI i = nI (3 * i) from pk_mul 3 i, nadd1, nadd2, ck_t (okn (j := i) (n := 5) (by omega) (by decide)), ck_t (okn (j := 3 * i) (n := 15) (by omega) (by decide)), ck_t (okn (j := 3 * i + 1) (n := 15) (by omega) (by decide)), ck_t (okn (j := 3 * i + 2) (n := 15) (by omega) (by decide)), ixn (j := i) (by omega), ixn (j := 3 * i) (by omega), ixn (j := 3 * i + 1) (by omega), ixn (j := 3 * i + 2) (by omega), w1, up_ne _ _ _ _ (show (11 : Nat) ≠ 6 by decide), w2, up_ne _ _ _ _ (show (11 : Nat) ≠ 7 by decide), w3]
    · show (up (up (up (up S1 6 i (nI (kd (tD T n) i))) 7 i (nI (tn (tD T n) i))) 8 i (nI (wr (tD T n) i))) 9 i 0 6 s = _ ∧ up (up (up (up S1 6 i (nI (kd (tD T n) i))) 7 i (nI (tn (tD T n) i))) 8 i (nI (wr (tD T n) i))) 9 i 0 7 s = _ ∧ up (up (up (up S1 6 i (nI (kd (tD T n) i))) 7 i (nI (tn (tD T n) i))) 8 i (nI (wr (tD T n) i))) 9 i 0 8 s = _) ∧ up (up (up (up S1 6 i (nI (kd (tD T n) i))) 7 i (nI (tn (tD T n) i))) 8 i (nI (wr (tD T n) i))) 9 i 0 9 s = 0
      simp only [up_ap, if_neg (show ¬ (6 : Nat) = 9 by decide), if_neg (show ¬ (6 : Nat) = 8 by decide), if_neg (show ¬ (6 : Nat) = 7 by decide), if_neg (show ¬ (7 : Nat) = 9 by decide), if_neg (show ¬ (7 : Nat) = 8 by decide), if_neg (show ¬ (8 : Nat) = 9 by decide), if_neg (show ¬ (7 : Nat) = 6 by decide), if_neg (show ¬ (8 : Nat) = 7 by decide), if_neg (show ¬ (8 : Nat) = 6 by decide), if_neg (show ¬ (9 : Nat) = 8 by decide), if_neg (show ¬ (9 : Nat) = 7 by decide), if_neg (show ¬ (9 : Nat) = 6 by decide), if_true]
      by_cases q : s = i
      · simp only [if_pos q, q]
        exact ⟨⟨rfl, rfl, rfl⟩, rfl⟩
      · simp only [if_neg q]
        exact hr s (by omega)
    · show up (up (up (up S1 6 i (nI (kd (tD T n) i))) 7 i (nI (tn (tD T n) i))) 8 i (nI (wr (tD T n) i))) 9 i 0 a = t.1 a
      rw [up_ne _ _ _ _ (by omega), up_ne _ _ _ _ (by omega), up_ne _ _ _ _ (by omega), up_ne _ _ _ _ (by omega)]
      exact hf a ha) (by
    intro q hq
    obtain ⟨S1, x⟩ := q
    obtain ⟨e, hr, hf⟩ := hq
    have e : x = nI (tS T n (tL T)) := e
    subst e
    have hf : ∀ a, a < 6 ∨ 9 < a → S1 a = t.1 a := hf
    refine ⟨(S1, nI (tS T n (tL T))), ?_, hr, hf⟩
    show i_X7_takeHall_53 S1 (nI (tS T n (tL T))) = _
    unfold i_X7_takeHall_53
    rw [hf 0 (by decide), t3 0 (by decide) (by decide), a4, if_pos (by rw [nle (by omega) (by omega)]; omega)]) (t.1, (0 : Int32)) ⟨rfl, fun l hl => absurd hl (Nat.not_lt_zero l), fun _ _ => rfl⟩ (by have := bigN; omega)
  rw [u1, bd_s]
  have b0 : ∀ a, a ≠ 0 → (up (up u.1 0 7 (0 : Int32)) 0 24 (0 : Int32)) a = u.1 a := fun a ha => by rw [up_ne _ _ _ _ ha, up_ne _ _ _ _ ha]
  have b1 : ∀ j, j ≠ 7 → j ≠ 24 → (up (up u.1 0 7 (0 : Int32)) 0 24 (0 : Int32)) 0 j = S0 0 j := fun j x y => by rw [up_row, if_neg y, up_row, if_neg x, u3 0 (by decide), t3 0 (by decide) (by decide)]
  refine ⟨_, rfl, ⟨by rw [b1 5 (by decide) (by decide)]; exact a3, by rw [b1 6 (by decide) (by decide)]; exact a4, fun l hl => by rw [b0 4 (by decide), u3 4 (by decide)]; exact (t2 l hl).1, fun s hs => by rw [b0 6 (by decide), b0 7 (by decide), b0 8 (by decide)]; exact (u2 s hs).1⟩, fun l hl => by rw [b0 5 (by decide), u3 5 (by decide)]; exact (t2 l hl).2, fun s hs => by rw [b0 9 (by decide)]; exact (u2 s hs).2, by rw [up_row, if_neg (by decide), up_row, if_pos rfl], by rw [up_row, if_pos rfl], fun a ha => by rw [b0 a (by omega), u3 a (by omega), t3 a (by omega) (by omega), a1 a (by omega)], fun j x y z w => by rw [b1 j z w, a2 j x y]⟩
