/-! the text of a hall: its first fault -/
theorem fnd_tot (p : Nat → Bool) : ∀ n s, s ≤ fnd p n s ∧ fnd p n s ≤ s + n ∧ (∀ j, s ≤ j → j < fnd p n s → p j = false) ∧ (fnd p n s < s + n → p (fnd p n s) = true)
  | 0, s => ⟨Nat.le_refl _, Nat.le_refl _, fun j h1 h2 => absurd h1 (by have h2' : j < s := h2; omega), fun h => absurd h (Nat.lt_irrefl _)⟩
  | n + 1, s => by
    show s ≤ (if p s then s else fnd p n (s + 1)) ∧ (if p s then s else fnd p n (s + 1)) ≤ s + (n + 1) ∧ (∀ j, s ≤ j → j < (if p s then s else fnd p n (s + 1)) → p j = false) ∧ ((if p s then s else fnd p n (s + 1)) < s + (n + 1) → p (if p s then s else fnd p n (s + 1)) = true)
    by_cases e : p s = true
    · rw [if_pos e]
      exact ⟨Nat.le_refl _, by omega, fun j h1 h2 => absurd h1 (by omega), fun _ => e⟩
    · rw [if_neg e]
      obtain ⟨k1, k2, k3, k4⟩ := fnd_tot p n (s + 1)
      refine ⟨by omega, by omega, fun j h1 h2 => ?_, fun h => k4 (by omega)⟩
      by_cases q : j = s
      · rw [q]; exact bf e
      · exact k3 j (by omega) h2
def tL (T : Nat → Int32) : Nat := fnd (fun l => !inB (T (1 + l)) 50 53) 5 0
def knd (x : Int32) : Int32 := if x = 98 then 1 else if x = 100 then 2 else if x = 112 then 0 else -9
def tl (T : Nat → Int32) (L p : Nat) : Nat := fnd (fun l => !inB (T (p + 3 + l)) 48 49) L 0
def swf (T : Nat → Int32) (L p : Nat) : Option Nat := if T p = 59 then (if knd (T (p + 1)) = -9 then some (p + 1) else if inB (T (p + 2)) 49 52 = true then (if tl T L p < L then some (p + 3 + tl T L p) else none) else some (p + 2)) else some p
def tp (L s : Nat) : Nat := 1 + L + s * (3 + L)
def stop (T : Nat → Int32) (n L s : Nat) : Bool := (decide (s ≠ 0) && decide (n ≤ tp L s)) || (swf T L (tp L s)).isSome
def tS (T : Nat → Int32) (n L : Nat) : Nat := fnd (stop T n L) 5 0
def tF (T : Nat → Int32) (n : Nat) : Option Nat := if T 0 = 108 then (if tL T = 0 then some 1 else if tS T n (tL T) < 5 ∧ (tS T n (tL T) = 0 ∨ tp (tL T) (tS T n (tL T)) < n) then swf T (tL T) (tp (tL T) (tS T n (tL T))) else if tp (tL T) (tS T n (tL T)) = n then none else some (tp (tL T) (tS T n (tL T)))) else some 0
def ov : Option Nat → Int32
  | none => -9
  | some q => nI q
theorem tL_le (T : Nat → Int32) : tL T ≤ 5 := by
  have := (fnd_tot (fun l => !inB (T (1 + l)) 50 53) 5 0).2.1
  show fnd _ _ _ ≤ 5
  omega
theorem nb {b : Bool} : (!b) = true ↔ b = false := by cases b <;> decide
theorem nb' {b : Bool} : (!b) = false ↔ b = true := by cases b <;> decide
theorem tL_lo {T : Nat → Int32} {l : Nat} (h : l < tL T) : inB (T (1 + l)) 50 53 = true := nb'.mp ((fnd_tot (fun l => !inB (T (1 + l)) 50 53) 5 0).2.2.1 l (Nat.zero_le _) h)
theorem tL_hi {T : Nat → Int32} (h : tL T < 5) : inB (T (1 + tL T)) 50 53 = false := nb.mp ((fnd_tot (fun l => !inB (T (1 + l)) 50 53) 5 0).2.2.2 (by have h' : fnd (fun l => !inB (T (1 + l)) 50 53) 5 0 < 5 := h; omega))
theorem tl_le (T : Nat → Int32) (L p : Nat) : tl T L p ≤ L := by
  have := (fnd_tot (fun l => !inB (T (p + 3 + l)) 48 49) L 0).2.1
  show fnd _ _ _ ≤ L
  omega
theorem tl_lo {T : Nat → Int32} {L p l : Nat} (h : l < tl T L p) : inB (T (p + 3 + l)) 48 49 = true := nb'.mp ((fnd_tot (fun l => !inB (T (p + 3 + l)) 48 49) L 0).2.2.1 l (Nat.zero_le _) h)
theorem tl_hi {T : Nat → Int32} {L p : Nat} (h : tl T L p < L) : inB (T (p + 3 + tl T L p)) 48 49 = false := nb.mp ((fnd_tot (fun l => !inB (T (p + 3 + l)) 48 49) L 0).2.2.2 (by have h' : fnd (fun l => !inB (T (p + 3 + l)) 48 49) L 0 < L := h; omega))
theorem tS_le (T : Nat → Int32) (n L : Nat) : tS T n L ≤ 5 := by
  have := (fnd_tot (stop T n L) 5 0).2.1
  show fnd _ _ _ ≤ 5
  omega
theorem tS_lo {T : Nat → Int32} {n L s : Nat} (h : s < tS T n L) : swf T L (tp L s) = none ∧ (s = 0 ∨ tp L s < n) := by
  have h1 : stop T n L s = false := (fnd_tot (stop T n L) 5 0).2.2.1 s (Nat.zero_le _) h
  unfold stop at h1
  rw [Bool.or_eq_false_iff] at h1
  refine ⟨?_, ?_⟩
  · cases hq : swf T L (tp L s) with
    | none => rfl
    | some q => rw [hq] at h1; exact absurd (show true = false from h1.2) (by decide)
  · by_cases e : s = 0
    · exact Or.inl e
    · right
      have h2 := h1.1
      rw [decide_eq_true e, Bool.true_and] at h2
      have := of_decide_eq_false h2
      omega
theorem tS_hi {T : Nat → Int32} {n L : Nat} (h : tS T n L < 5) (hc : tS T n L = 0 ∨ tp L (tS T n L) < n) : ∃ q, swf T L (tp L (tS T n L)) = some q := by
  have h1 : stop T n L (tS T n L) = true := (fnd_tot (stop T n L) 5 0).2.2.2 (by have h' : fnd (stop T n L) 5 0 < 5 := h; omega)
  unfold stop at h1
  rw [Bool.or_eq_true] at h1
  rcases h1 with h1 | h1
  · rw [Bool.and_eq_true] at h1
    have a := of_decide_eq_true h1.1
    have b := of_decide_eq_true h1.2
    omega
  · exact Option.isSome_iff_exists.mp h1
theorem tp_le {L s : Nat} (hL : L ≤ 5) (hs : s ≤ 5) : tp L s ≤ 46 := by
  unfold tp
  have : s * (3 + L) ≤ 5 * 8 := Nat.mul_le_mul hs (by omega)
  omega
theorem tp_succ (L s : Nat) : tp L (s + 1) = tp L s + 3 + L := by
  unfold tp
  rw [Nat.succ_mul]
  omega
/-! the class reads it -/
def TX (S : St) (n : Nat) (T : Nat → Int32) : Prop := S 2 1 = nI n ∧ n ≤ 60 ∧ (∀ p, p < n → S 28 p = T p) ∧ ∀ p, n ≤ p → T p = -1
theorem X_code {S : St} {n : Nat} {T : Nat → Int32} (h : TX S n T) {p : Nat} (hp : p < 1000) : f_X5_codeAt S (nI p) = some (T p) := by
  obtain ⟨h1, h2, h3, h4⟩ := h
  unfold f_X5_codeAt
  rw [if_neg (nnot0 (by omega)), h1]
  by_cases e : n ≤ p
  · rw [if_pos (by rw [nle (by omega) (by omega)]; exact e), h4 p e]
  · rw [if_neg (by rw [nle (by omega) (by omega)]; exact e), ck_t (okn (by omega) (by decide)), ixn (by omega), h3 p (by omega)]
theorem X_dig {S : St} {n : Nat} {T : Nat → Int32} (h : TX S n T) {p : Nat} (hp : p < 1000) (a b : Int32) : f_X5_isDigit S (nI p) a b = some (inB (T p) a b) := by
  unfold f_X5_isDigit
  rw [X_code h hp, bd_s, X_in, bd_s]
theorem X_kind (x : Int32) : f_X5_kindOf x = some (knd x) := by
  unfold f_X5_kindOf knd
  by_cases e1 : x = 98
  · rw [if_pos e1, if_pos e1]
  · rw [if_neg e1, if_neg e1]
    by_cases e2 : x = 100
    · rw [if_pos e2, if_pos e2]
    · rw [if_neg e2, if_neg e2]
      by_cases e3 : x = 112
      · rw [if_pos e3, if_pos e3]
      · rw [if_neg e3, if_neg e3]
theorem nadd2 (a : Nat) : nI a + (2 : Int32) = nI (a + 2) := nI_add a 2
theorem nadd3 (a : Nat) : nI a + (3 : Int32) = nI (a + 3) := nI_add a 3
theorem X_swf {S : St} {n L : Nat} {T : Nat → Int32} (h : TX S n T) (h2 : S 2 2 = nI L) (hL : L ≤ 5) {p : Nat} (hp : p < 100) : f_X5_faultInSwitch S (nI p) = some (ov (swf T L p)) := by
  unfold f_X5_faultInSwitch swf
  rw [X_code h (by omega), bd_s]
  by_cases e1 : T p = 59
  · rw [if_pos e1, if_pos e1, nadd1, X_code h (by omega), bd_s, X_kind, bd_s]
    by_cases e2 : knd (T (p + 1)) = -9
    · rw [if_pos e2, if_pos e2]
      rfl
    · rw [if_neg e2, if_neg e2, nadd2, X_dig h (by omega), bd_s]
      by_cases e3 : inB (T (p + 2)) 49 52 = true
      · rw [if_pos e3, if_pos e3]
        have hl := tl_le T L p
        have st : ∀ l, l < L → i_X5_faultInSwitch_51 S (nI p) (nI l) = if inB (T (p + 3 + l)) 48 49 = true then some (.inl (nI (l + 1))) else some (.inr (.inr (nI (p + 3 + l)))) := by
          intro l hl
          unfold i_X5_faultInSwitch_51
          rw [h2, if_neg (by rw [nle (by omega) (by omega)]; omega), nadd3, nI_add, X_dig h (by omega), bd_s, nadd1]
        by_cases e4 : tl T L p < L
        · rw [if_pos e4, iter_to (fun i => nI i) (tl T L p) (t := .inr (nI (p + 3 + tl T L p))) (by rfl) (fun i hi => by rw [st i (by omega), if_pos (tl_lo hi)]) (by rw [st _ e4, if_neg (by rw [tl_hi e4]; decide)]) (by have := bigN; omega), bd_s, sm_o]
          rfl
        · rw [if_neg e4, iter_to (fun i => nI i) L (t := .inl (nI L)) (by rfl) (fun i hi => by rw [st i (by omega), if_pos (tl_lo (show i < tl T L p by omega))]) (by
            unfold i_X5_faultInSwitch_51
            rw [h2, if_pos (by rw [nle (by omega) (by omega)]; omega)]) (by have := bigN; omega), bd_s, sm_i]
          rfl
      · rw [if_neg e3, if_neg e3]
        rfl
  · rw [if_neg e1, if_neg e1]
    rfl
theorem TX.fr {S S' : St} {n : Nat} {T : Nat → Int32} (h : TX S n T) (e1 : S' 2 1 = S 2 1) (e2 : S' 28 = S 28) : TX S' n T := ⟨by rw [e1]; exact h.1, h.2.1, by rw [e2]; exact h.2.2.1, h.2.2.2⟩
theorem X_placeOf {S : St} {L s : Nat} (h2 : S 2 2 = nI L) : f_X5_placeOf S (nI s) = some (nI (tp L s)) := by
  unfold f_X5_placeOf
  rw [h2, n1, n3, nI_add, nI_add, pk_mul, nI_add]
  rfl
theorem ov_some {q : Nat} (h : q < 1000) : ¬ ov (some q) = -9 := m9 (by omega)
theorem X_firstFault {S : St} {n : Nat} {T : Nat → Int32} (h : TX S n T) : ∃ S', f_X5_firstFault S = some (ov (tF T n), S') ∧ (∀ a, a ≠ 2 → S' a = S a) ∧ S' 2 1 = S 2 1 ∧ (tF T n = none → S' 2 2 = nI (tL T) ∧ S' 2 3 = nI (tS T n (tL T))) := by
  have hL := tL_le T
  have hn := h.2.1
  unfold f_X5_firstFault tF
  rw [show f_X5_codeAt S (0 : Int32) = some (T 0) from X_code h (p := 0) (by decide), bd_s]
  by_cases e0 : T 0 = 108
  · rw [if_pos e0, if_pos e0]
    have hT : ∀ i, TX (up S 2 2 (nI i)) n T := fun i => h.fr (by rw [up_row, if_neg (by decide)]) (up_ne _ _ _ _ (by decide))
    have e22 : ∀ i, (up S 2 2 (nI i)) 2 2 = nI i := fun i => by rw [up_row, if_pos rfl]
    have st : ∀ i, i < 5 → i_X5_firstFault_17 (up S 2 2 (nI i)) = if inB (T (1 + i)) 50 53 = true then some (.inl (up S 2 2 (nI (i + 1)))) else some (.inr (up S 2 2 (nI i))) := by
      intro i hi
      unfold i_X5_firstFault_17
      rw [e22, if_neg (show ¬ (5 : Int32) ≤ nI i by rw [n5, nle (by decide) (by omega)]; omega), show (1 : Int32) + nI i = nI (1 + i) from nI_add 1 i, X_dig (hT i) (by omega), bd_s, up_up, nadd1]
      by_cases e : inB (T (1 + i)) 50 53 = true
      · rw [if_pos e, e, if_neg (by decide)]
      · rw [if_neg e, bf e, if_pos rfl]
    rw [iter_to (fun i => up S 2 2 (nI i)) (tL T) (t := up S 2 2 (nI (tL T))) (by rfl) (fun i hi => by rw [st i (by omega), if_pos (tL_lo hi)]) (by
      by_cases e5 : tL T < 5
      · rw [st _ e5, if_neg (by rw [tL_hi e5]; decide)]
      · unfold i_X5_firstFault_17
        rw [e22, if_pos (show (5 : Int32) ≤ nI (tL T) by rw [n5, nle (by decide) (by omega)]; omega)]) (by have := bigN; omega), bd_s]
    unfold j_X5_firstFault_55
    rw [e22]
    by_cases eL : tL T = 0
    · rw [eL, if_pos (show nI 0 = (0 : Int32) from rfl), if_pos rfl]
      exact ⟨_, rfl, fun a ha => up_ne _ _ _ _ ha, by rw [up_row, if_neg (by decide)], fun q => by cases q⟩
    rw [if_neg (show ¬ nI (tL T) = (0 : Int32) from nI_ne0 (by omega) (by omega)), if_neg eL]
    have hTL := hT (tL T)
    have hL2 := e22 (tL T)
    have fL : ∀ a, a ≠ 2 → up S 2 2 (nI (tL T)) a = S a := fun a ha => up_ne _ _ _ _ ha
    have fL1 : (up S 2 2 (nI (tL T))) 2 1 = S 2 1 := by rw [up_row, if_neg (by decide)]
    generalize up S 2 2 (nI (tL T)) = S1 at hTL hL2 fL fL1 ⊢
    generalize tL T = L at *
    have hSl := tS_le T n L
    have hT2 : ∀ i, TX (up S1 2 3 (nI i)) n T := fun i => hTL.fr (by rw [up_row, if_neg (by decide)]) (up_ne _ _ _ _ (by decide))
    have e2 : ∀ i, (up S1 2 3 (nI i)) 2 2 = nI L := fun i => by rw [up_row, if_neg (by decide), hL2]
    have e3 : ∀ i, (up S1 2 3 (nI i)) 2 3 = nI i := fun i => by rw [up_row, if_pos rfl]
    have e1 : ∀ i, (up S1 2 3 (nI i)) 2 1 = nI n := fun i => (hT2 i).1
    have body : ∀ s, s < 5 → j_X5_firstFault_99 (up S1 2 3 (nI s)) = if ov (swf T L (tp L s)) = -9 then some (.inl (up S1 2 3 (nI (s + 1)))) else some (.inr (.inr (ov (swf T L (tp L s)), up S1 2 3 (nI s)))) := by
      intro s hs
      have hp := tp_le hL (show s ≤ 5 by omega)
      unfold j_X5_firstFault_99
      rw [e3, X_placeOf (e2 s), bd_s, X_swf (hT2 s) (e2 s) hL (by omega), bd_s, up_up, nadd1]
    have st2 : ∀ s, s < 5 → i_X5_firstFault_69 (up S1 2 3 (nI s)) = if s = 0 ∨ tp L s < n then (if ov (swf T L (tp L s)) = -9 then some (.inl (up S1 2 3 (nI (s + 1)))) else some (.inr (.inr (ov (swf T L (tp L s)), up S1 2 3 (nI s))))) else some (.inr (.inl (up S1 2 3 (nI s)))) := by
      intro s hs
      have hp := tp_le hL (show s ≤ 5 by omega)
      unfold i_X5_firstFault_69
      rw [e3, if_neg (show ¬ (5 : Int32) ≤ nI s by rw [n5, nle (by decide) (by omega)]; omega), body s hs]
      by_cases q : s = 0
      · rw [if_pos (show nI s = (0 : Int32) by rw [q]; rfl), if_pos (Or.inl q)]
      · rw [if_neg (show ¬ nI s = (0 : Int32) from nI_ne0 (by omega) (by omega)), X_placeOf (e2 s), bd_s, e1]
        by_cases r : tp L s < n
        · rw [if_neg (by rw [nle (by omega) (by omega)]; omega), if_pos (Or.inr r)]
        · rw [if_pos (by rw [nle (by omega) (by omega)]; omega), if_neg (by omega)]
    have run : ∀ s, s < tS T n L → i_X5_firstFault_69 (up S1 2 3 (nI s)) = some (.inl (up S1 2 3 (nI (s + 1)))) := by
      intro s hs
      obtain ⟨k1, k2⟩ := tS_lo hs
      rw [st2 s (by omega), if_pos k2, k1, if_pos (show ov none = -9 from rfl)]
    have hp := tp_le hL hSl
    by_cases hc : tS T n L < 5 ∧ (tS T n L = 0 ∨ tp L (tS T n L) < n)
    · obtain ⟨q, hq⟩ := tS_hi hc.1 hc.2
      have hq9 : ¬ ov (swf T L (tp L (tS T n L))) = -9 := by
        rw [hq]
        refine ov_some ?_
        have hl := tl_le T L (tp L (tS T n L))
        unfold swf at hq
        by_cases w1 : T (tp L (tS T n L)) = 59
        · rw [if_pos w1] at hq
          by_cases w2 : knd (T (tp L (tS T n L) + 1)) = -9
          · rw [if_pos w2] at hq
            cases hq
            omega
          · rw [if_neg w2] at hq
            by_cases w3 : inB (T (tp L (tS T n L) + 2)) 49 52 = true
            · rw [if_pos w3] at hq
              by_cases w4 : tl T L (tp L (tS T n L)) < L
              · rw [if_pos w4] at hq
                cases hq
                omega
              · rw [if_neg w4] at hq
                cases hq
            · rw [if_neg w3] at hq
              cases hq
              omega
        · rw [if_neg w1] at hq
          cases hq
          omega
      rw [if_pos hc, iter_to (fun s => up S1 2 3 (nI s)) (tS T n L) (t := .inr (ov (swf T L (tp L (tS T n L))), up S1 2 3 (nI (tS T n L)))) (by rfl) run (by rw [st2 _ hc.1, if_pos hc.2, if_neg hq9]) (by have := bigN; omega), bd_s, sm_o]
      refine ⟨_, rfl, fun a ha => by rw [up_ne _ _ _ _ ha, fL a ha], by rw [up_row, if_neg (by decide), fL1], fun z => ?_⟩
      rw [hq] at z
      cases z
    · have fin : i_X5_firstFault_69 (up S1 2 3 (nI (tS T n L))) = some (.inr (.inl (up S1 2 3 (nI (tS T n L))))) := by
        by_cases q : tS T n L < 5
        · rw [st2 _ q, if_neg (fun z => hc ⟨q, z⟩)]
        · unfold i_X5_firstFault_69
          rw [e3, if_pos (show (5 : Int32) ≤ nI (tS T n L) by rw [n5, nle (by decide) (by omega)]; omega)]
      rw [if_neg hc, iter_to (fun s => up S1 2 3 (nI s)) (tS T n L) (t := .inl (up S1 2 3 (nI (tS T n L)))) (by rfl) run fin (by have := bigN; omega), bd_s, sm_i]
      unfold j_X5_firstFault_133
      simp only [e3, e1, X_placeOf (e2 (tS T n L)), bd_s]
      by_cases q : tp L (tS T n L) = n
      · rw [if_pos (show nI (tp L (tS T n L)) = nI n by rw [q]), if_pos q]
        exact ⟨_, rfl, fun a ha => by rw [up_ne _ _ _ _ ha, fL a ha], by rw [up_row, if_neg (by decide), fL1], fun _ => ⟨e2 _, e3 _⟩⟩
      · rw [if_neg (show ¬ nI (tp L (tS T n L)) = nI n by rw [neq (by omega) (by omega)]; exact q), if_neg q]
        exact ⟨_, rfl, fun a ha => by rw [up_ne _ _ _ _ ha, fL a ha], by rw [up_row, if_neg (by decide), fL1], fun z => by cases z⟩
  · rw [if_neg e0, if_neg e0]
    exact ⟨S, rfl, fun _ _ => rfl, rfl, fun z => by cases z⟩
