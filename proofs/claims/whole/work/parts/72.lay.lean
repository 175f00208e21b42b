/-! a hall laid out by its text: the class -/
def wvn (q : Nat → Bool) : Nat → Nat
  | 0 => 0
  | l + 1 => wvn q l + (if q l then 2 ^ l else 0)
theorem wvn_lt (q : Nat → Bool) : ∀ l, wvn q l < 2 ^ l
  | 0 => by show 0 < 1; decide
  | l + 1 => by
    have := wvn_lt q l
    show wvn q l + (if q l then 2 ^ l else 0) < 2 ^ (l + 1)
    rw [Nat.pow_succ]
    split <;> omega
theorem or_tab : ∀ l, l < 5 → ∀ w, w < 16 → w < 2 ^ l → nI w ||| shl32 (1 : Int32) (nI l) = nI (w + 2 ^ l) := by decide +kernel
theorem shl_tab : ∀ l, l < 5 → shl32 (nI 1) (nI l) = nI (2 ^ l) ∧ shl32 (nI 0) (nI l) = nI 0 := by decide +kernel
theorem pow_16 {l : Nat} (h : l < 5) : 2 ^ l ≤ 16 := Nat.le_trans (Nat.pow_le_pow_right (by decide) (show l ≤ 4 by omega)) (by decide)
theorem in_nat {x : Int32} {a b : Nat} (hb : b < 2 ^ 31) (hab : a ≤ b) (h : inB x (nI a) (nI b) = true) : ∃ q, a ≤ q ∧ q ≤ b ∧ x = nI q := by
  obtain ⟨h1, h2⟩ := inB_t h
  have h0 : ¬ x < 0 := by
    intro h3
    apply h1
    rw [Int32.lt_iff_toInt_lt] at h3 ⊢
    rw [nI_toInt (by omega)]
    have e0 : (0 : Int32).toInt = 0 := by decide
    omega
  obtain ⟨j, j1, j2⟩ := inB_n hb (inB_of h0 h2)
  refine ⟨j, ?_, j1, j2⟩
  rw [j2, nlt (by omega) (by omega)] at h1
  omega
theorem swf_none {T : Nat → Int32} {L p : Nat} (h : swf T L p = none) : T p = 59 ∧ knd (T (p + 1)) ≠ -9 ∧ inB (T (p + 2)) 49 52 = true ∧ ∀ l, l < L → inB (T (p + 3 + l)) 48 49 = true := by
  unfold swf at h
  by_cases w1 : T p = 59
  · rw [if_pos w1] at h
    by_cases w2 : knd (T (p + 1)) = -9
    · rw [if_pos w2] at h
      cases h
    · rw [if_neg w2] at h
      by_cases w3 : inB (T (p + 2)) 49 52 = true
      · rw [if_pos w3] at h
        by_cases w4 : tl T L p < L
        · rw [if_pos w4] at h
          cases h
        · exact ⟨w1, w2, w3, fun l hl => tl_lo (show l < tl T L p by omega)⟩
      · rw [if_neg w3] at h
        cases h
  · rw [if_neg w1] at h
    cases h
theorem knd_ok {x : Int32} (h : knd x ≠ -9) : knd x = nI (ix (knd x)) ∧ ix (knd x) ≤ 2 := by
  unfold knd at h ⊢
  by_cases e1 : x = 98
  · rw [if_pos e1]
    exact ⟨by decide, by decide⟩
  · rw [if_neg e1] at h ⊢
    by_cases e2 : x = 100
    · rw [if_pos e2]
      exact ⟨by decide, by decide⟩
    · rw [if_neg e2] at h ⊢
      by_cases e3 : x = 112
      · rw [if_pos e3]
        exact ⟨by decide, by decide⟩
      · rw [if_neg e3] at h
        exact absurd rfl h
theorem dig_ok {x : Int32} {a b : Nat} (ha : 48 ≤ a) (hb : b < 100) (hab : a ≤ b) (h : inB x (nI a) (nI b) = true) : x - 48 = nI (ix x - 48) ∧ a ≤ ix x ∧ ix x ≤ b := by
  obtain ⟨q, q1, q2, q3⟩ := in_nat (by omega) hab h
  rw [q3, ixn (by omega)]
  exact ⟨pk_sub (a := q) (b := 48) (by omega), q1, q2⟩
/-- the hall of a text -/
def tD (T : Nat → Int32) (n : Nat) : HD := (tL T, tS T n (tL T), fun l => ix (T (1 + l)) - 48, fun s => ix (knd (T (tp (tL T) s + 1))), fun s => ix (T (tp (tL T) s + 2)) - 48, fun s => wvn (fun l => T (tp (tL T) s + 3 + l) == 49) (tL T))
theorem tD_ok {T : Nat → Int32} {n : Nat} (h : tF T n = none) : GH (tD T n) ∧ 0 < ns (tD T n) := by
  have hL := tL_le T
  have hS := tS_le T n (tL T)
  refine ⟨⟨hL, hS, fun l hl => ?_, fun s hs => ?_⟩, ?_⟩
  · obtain ⟨_, a, b⟩ := dig_ok (a := 50) (b := 53) (by decide) (by decide) (by decide) (tL_lo (show l < tL T from hl))
    show 2 ≤ ix (T (1 + l)) - 48 ∧ ix (T (1 + l)) - 48 ≤ 5
    omega
  · obtain ⟨k1, k2, k3, k4⟩ := swf_none (tS_lo (show s < tS T n (tL T) from hs)).1
    obtain ⟨_, a, b⟩ := dig_ok (a := 49) (b := 52) (by decide) (by decide) (by decide) k3
    have w := wvn_lt (fun l => T (tp (tL T) s + 3 + l) == 49) (tL T)
    have w2 : 2 ^ tL T ≤ 2 ^ 5 := Nat.pow_le_pow_right (by decide) hL
    have e : (2 : Nat) ^ 5 = 32 := by decide
    refine ⟨(knd_ok k2).2, ?_, ?_, ?_⟩
    · show 1 ≤ ix (T (tp (tL T) s + 2)) - 48
      omega
    · show ix (T (tp (tL T) s + 2)) - 48 ≤ 4
      omega
    · show wvn (fun l => T (tp (tL T) s + 3 + l) == 49) (tL T) < 32
      omega
  · show 0 < tS T n (tL T)
    refine Nat.pos_of_ne_zero (fun e => ?_)
    unfold tF at h
    by_cases e0 : T 0 = 108
    · rw [if_pos e0] at h
      by_cases e1 : tL T = 0
      · rw [if_pos e1] at h
        cases h
      · rw [if_neg e1, if_pos ⟨by omega, Or.inl e⟩] at h
        obtain ⟨q, hq⟩ := tS_hi (T := T) (n := n) (L := tL T) (by omega) (Or.inl e)
        rw [hq] at h
        cases h
    · rw [if_neg e0] at h
      cases h
theorem X_wires {S : St} {n L p : Nat} {T : Nat → Int32} (h : TX S n T) (h2 : S 2 2 = nI L) (hL : L ≤ 5) (hp : p < 100) : f_X5_wiresFrom S (nI p) = some (nI (wvn (fun l => T (p + l) == 49) L)) := by
  unfold f_X5_wiresFrom
  rw [iter_to (fun i => (nI (wvn (fun l => T (p + l) == 49) i), nI i)) L (t := (nI (wvn (fun l => T (p + l) == 49) L), nI L)) (by rfl), bd_s]
  · intro i hi
    have hw := wvn_lt (fun l => T (p + l) == 49) i
    have h16 := pow_16 (show i < 5 by omega)
    show i_X5_wiresFrom_4 S (nI p) (nI (wvn (fun l => T (p + l) == 49) i)) (nI i) = some (Sum.inl (nI (wvn (fun l => T (p + l) == 49) i + (if (T (p + i) == 49) then 2 ^ i else 0)), nI (i + 1)))
    unfold i_X5_wiresFrom_4
    rw [h2, if_neg (by rw [nle (by omega) (by omega)]; omega), nI_add, X_code h (by omega), bd_s, nadd1]
    by_cases e : T (p + i) = 49
    · rw [if_pos e, if_pos (by rw [e]; exact beq_self_eq_true _), or_tab i (by omega) _ (by omega) hw]
    · rw [if_neg e, if_neg (fun q => e (eq_of_beq q))]
      rfl
  · show i_X5_wiresFrom_4 S (nI p) (nI (wvn (fun l => T (p + l) == 49) L)) (nI L) = _
    unfold i_X5_wiresFrom_4
    rw [h2, if_pos (by rw [nle (by omega) (by omega)]; omega)]
  · have := bigN; omega
theorem X_layOut {S : St} {n : Nat} {T : Nat → Int32} (h : TX S n T) (hF : tF T n = none) (h2 : S 2 2 = nI (tL T)) (h3 : S 2 3 = nI (tS T n (tL T))) : ∃ S', f_X5_layOut S = some S' ∧ XH S' (tD T n) ∧ (∀ l, l < tL T → S' 23 l = 0) ∧ (∀ s, s < tS T n (tL T) → S' 27 s = 0) ∧ ∀ a, a ≠ 1 → a < 22 ∨ 27 < a → S' a = S a := by
  have hL := tL_le T
  have hS := tS_le T n (tL T)
  obtain ⟨t, t1, t2, t3⟩ := iter_rel (it := fun q : St × Int32 => i_X5_layOut_10 q.1 q.2) (fun i q => q.2 = nI i ∧ (∀ l, l < i → q.1 22 l = nI (ix (T (1 + l)) - 48) ∧ q.1 23 l = 0) ∧ ∀ a, a ≠ 22 → a ≠ 23 → q.1 a = (up S 1 0 (nI (tL T))) a) (fun t => (∀ l, l < tL T → t.1 22 l = nI (ix (T (1 + l)) - 48) ∧ t.1 23 l = 0) ∧ ∀ a, a ≠ 22 → a ≠ 23 → t.1 a = (up S 1 0 (nI (tL T))) a) (tL T) (by
    intro i q hi hq
    obtain ⟨S1, x⟩ := q
    obtain ⟨e, hr, hf⟩ := hq
    have e : x = nI i := e
    subst e
    have hr : ∀ l, l < i → S1 22 l = nI (ix (T (1 + l)) - 48) ∧ S1 23 l = 0 := hr
    have hf : ∀ a, a ≠ 22 → a ≠ 23 → S1 a = (up S 1 0 (nI (tL T))) a := hf
    have hT : TX S1 n T := h.fr (by rw [hf 2 (by decide) (by decide), up_ne _ _ _ _ (by decide)]) (by rw [hf 28 (by decide) (by decide), up_ne _ _ _ _ (by decide)])
    have h22 : S1 2 2 = nI (tL T) := by rw [hf 2 (by decide) (by decide), up_ne _ _ _ _ (by decide), h2]
    obtain ⟨d1, d2, d3⟩ := dig_ok (a := 50) (b := 53) (by decide) (by decide) (by decide) (tL_lo hi)
    refine ⟨(up (up S1 22 i (nI (ix (T (1 + i)) - 48))) 23 i 0, nI (i + 1)), ?_, rfl, fun l hl => ?_, fun a ha hb => ?_⟩
    · show i_X5_layOut_10 S1 (nI i) = _
      unfold i_X5_layOut_10
      rw [h22, if_neg (by rw [nle (by omega) (by omega)]; omega), show (1 : Int32) + nI i = nI (1 + i) from nI_add 1 i, X_code hT (by omega), bd_s, ck_t (okn (by omega) (by decide)), ck_t (okn (by omega) (by decide)), ixn (by omega), d1, nadd1]
    · show up (up S1 22 i (nI (ix (T (1 + i)) - 48))) 23 i 0 22 l = _ ∧ up (up S1 22 i (nI (ix (T (1 + i)) - 48))) 23 i 0 23 l = 0
      rw [up_ne _ _ _ _ (by decide), up_row, up_row, up_ne _ _ _ _ (by decide)]
      by_cases q : l = i
      · rw [if_pos q, if_pos q, q]
        exact ⟨rfl, rfl⟩
      · rw [if_neg q, if_neg q]
        exact hr l (by omega)
    · show up (up S1 22 i (nI (ix (T (1 + i)) - 48))) 23 i 0 a = _
      rw [up_ne _ _ _ _ hb, up_ne _ _ _ _ ha]
      exact hf a ha hb) (by
    intro q hq
    obtain ⟨S1, x⟩ := q
    obtain ⟨e, hr, hf⟩ := hq
    have e : x = nI (tL T) := e
    subst e
    have hf : ∀ a, a ≠ 22 → a ≠ 23 → S1 a = (up S 1 0 (nI (tL T))) a := hf
    refine ⟨(S1, nI (tL T)), ?_, hr, hf⟩
    show i_X5_layOut_10 S1 (nI (tL T)) = _
    unfold i_X5_layOut_10
    rw [hf 2 (by decide) (by decide), up_ne _ _ _ _ (by decide), h2, if_pos (by rw [nle (by omega) (by omega)]; omega)]) (up S 1 0 (nI (tL T)), (0 : Int32)) ⟨rfl, fun l hl => absurd hl (Nat.not_lt_zero l), fun _ _ _ => rfl⟩ (by have := bigN; omega)
  have f1 : ∀ a, a ≠ 1 → a ≠ 22 → a ≠ 23 → (up t.1 1 3 (nI (tS T n (tL T)))) a = S a := fun a a1 a2 a3 => by rw [up_ne _ _ _ _ a1, t3 a a2 a3, up_ne _ _ _ _ a1]
  have f10 : (up t.1 1 3 (nI (tS T n (tL T)))) 1 0 = nI (tL T) := by rw [up_row, if_neg (by decide), t3 1 (by decide) (by decide), up_row, if_pos rfl]
  have f13 : (up t.1 1 3 (nI (tS T n (tL T)))) 1 3 = nI (tS T n (tL T)) := by rw [up_row, if_pos rfl]
  have f22 : ∀ l, l < tL T → (up t.1 1 3 (nI (tS T n (tL T)))) 22 l = nI (ix (T (1 + l)) - 48) ∧ (up t.1 1 3 (nI (tS T n (tL T)))) 23 l = 0 := fun l hl => by
    rw [up_ne _ _ _ _ (by decide), up_ne _ _ _ _ (by decide)]
    exact t2 l hl
  unfold f_X5_layOut
  rw [h2, t1, bd_s, t3 2 (by decide) (by decide), up_ne _ _ _ _ (show (2 : Nat) ≠ 1 by decide), h3]
  generalize up t.1 1 3 (nI (tS T n (tL T))) = S0 at f1 f10 f13 f22 ⊢
  obtain ⟨u, u1, u2, u3⟩ := iter_rel (it := fun q : St × Int32 => i_X5_layOut_57 q.1 q.2) (fun i q => q.2 = nI i ∧ (∀ s, s < i → (q.1 24 s = nI (kd (tD T n) s) ∧ q.1 25 s = nI (tn (tD T n) s) ∧ q.1 26 s = nI (wr (tD T n) s)) ∧ q.1 27 s = 0) ∧ ∀ a, a < 24 ∨ 27 < a → q.1 a = S0 a) (fun t => (∀ s, s < tS T n (tL T) → (t.1 24 s = nI (kd (tD T n) s) ∧ t.1 25 s = nI (tn (tD T n) s) ∧ t.1 26 s = nI (wr (tD T n) s)) ∧ t.1 27 s = 0) ∧ ∀ a, a < 24 ∨ 27 < a → t.1 a = S0 a) (tS T n (tL T)) (by
    intro i q hi hq
    obtain ⟨S1, x⟩ := q
    obtain ⟨e, hr, hf⟩ := hq
    have e : x = nI i := e
    subst e
    have hr : ∀ s, s < i → (S1 24 s = nI (kd (tD T n) s) ∧ S1 25 s = nI (tn (tD T n) s) ∧ S1 26 s = nI (wr (tD T n) s)) ∧ S1 27 s = 0 := hr
    have hf : ∀ a, a < 24 ∨ 27 < a → S1 a = S0 a := hf
    have e2 : ∀ a, a < 24 ∨ 27 < a → a ≠ 1 → a ≠ 22 → a ≠ 23 → S1 a = S a := fun a a1 a2 a3 a4 => by rw [hf a a1, f1 a a2 a3 a4]
    have hT : TX S1 n T := h.fr (by rw [e2 2 (by decide) (by decide) (by decide) (by decide)]) (e2 28 (by decide) (by decide) (by decide) (by decide))
    have h22 : S1 2 2 = nI (tL T) := by rw [e2 2 (by decide) (by decide) (by decide) (by decide), h2]
    have h23 : S1 2 3 = nI (tS T n (tL T)) := by rw [e2 2 (by decide) (by decide) (by decide) (by decide), h3]
    obtain ⟨k1, k2, k3, k4⟩ := swf_none (tS_lo hi).1
    obtain ⟨d1, d2, d3⟩ := dig_ok (a := 49) (b := 52) (by decide) (by decide) (by decide) k3
    have hp := tp_le hL (show i ≤ 5 by omega)
    have ek : knd (T (tp (tL T) i + 1)) = nI (kd (tD T n) i) := (knd_ok k2).1
    have et : T (tp (tL T) i + 2) - 48 = nI (tn (tD T n) i) := d1
    have hTa : TX (up S1 24 i (nI (kd (tD T n) i))) n T := hT.fr (by rw [up_ne _ _ _ _ (by decide)]) (up_ne _ _ _ _ (by decide))
    have hTb : TX (up (up S1 24 i (nI (kd (tD T n) i))) 25 i (nI (tn (tD T n) i))) n T := hTa.fr (by rw [up_ne _ _ _ _ (by decide)]) (up_ne _ _ _ _ (by decide))
    have h22b : (up (up S1 24 i (nI (kd (tD T n) i))) 25 i (nI (tn (tD T n) i))) 2 2 = nI (tL T) := by rw [up_ne _ _ _ _ (by decide), up_ne _ _ _ _ (by decide), h22]
    refine ⟨(up (up (up (up S1 24 i (nI (kd (tD T n) i))) 25 i (nI (tn (tD T n) i))) 26 i (nI (wr (tD T n) i))) 27 i 0, nI (i + 1)), ?_, rfl, fun s hs => ?_, fun a ha => ?_⟩
    · show i_X5_layOut_57 S1 (nI i) = _
      unfold i_X5_layOut_57
      rw [h23, if_neg (by rw [nle (by omega) (by omega)]; omega), X_placeOf h22, bd_s, nadd1, X_code hT (by omega), bd_s, X_kind, bd_s, ek]
      simp only [ck_t (okn (j := i) (n := 5) (by omega) (by decide)), ixn (j := i) (by omega)]
      rw [nadd2, X_code hTa (by omega), bd_s, et, nadd3, X_wires hTb h22b hL (by omega), bd_s, nadd1]
      rfl
    · show (up (up (up (up S1 24 i (nI (kd (tD T n) i))) 25 i (nI (tn (tD T n) i))) 26 i (nI (wr (tD T n) i))) 27 i 0 24 s = _ ∧ up (up (up (up S1 24 i (nI (kd (tD T n) i))) 25 i (nI (tn (tD T n) i))) 26 i (nI (wr (tD T n) i))) 27 i 0 25 s = _ ∧ up (up (up (up S1 24 i (nI (kd (tD T n) i))) 25 i (nI (tn (tD T n) i))) 26 i (nI (wr (tD T n) i))) 27 i 0 26 s = _) ∧ up (up (up (up S1 24 i (nI (kd (tD T n) i))) 25 i (nI (tn (tD T n) i))) 26 i (nI (wr (tD T n) i))) 27 i 0 27 s = 0
      simp only [up_ap, if_neg (show ¬ (24 : Nat) = 27 by decide), if_neg (show ¬ (24 : Nat) = 26 by decide), if_neg (show ¬ (24 : Nat) = 25 by decide), if_neg (show ¬ (25 : Nat) = 27 by decide), if_neg (show ¬ (25 : Nat) = 26 by decide), if_neg (show ¬ (26 : Nat) = 27 by decide), if_neg (show ¬ (25 : Nat) = 24 by decide), if_neg (show ¬ (26 : Nat) = 25 by decide), if_neg (show ¬ (26 : Nat) = 24 by decide), if_neg (show ¬ (27 : Nat) = 26 by decide), if_neg (show ¬ (27 : Nat) = 25 by decide), if_neg (show ¬ (27 : Nat) = 24 by decide), if_true]
      by_cases q : s = i
      · simp only [if_pos q, q]
        exact ⟨⟨rfl, rfl, rfl⟩, rfl⟩
      · simp only [if_neg q]
        exact hr s (by omega)
    · show up (up (up (up S1 24 i (nI (kd (tD T n) i))) 25 i (nI (tn (tD T n) i))) 26 i (nI (wr (tD T n) i))) 27 i 0 a = S0 a
      rw [up_ne _ _ _ _ (by omega), up_ne _ _ _ _ (by omega), up_ne _ _ _ _ (by omega), up_ne _ _ _ _ (by omega)]
      exact hf a ha) (by
    intro q hq
    obtain ⟨S1, x⟩ := q
    obtain ⟨e, hr, hf⟩ := hq
    have e : x = nI (tS T n (tL T)) := e
    subst e
    have hf : ∀ a, a < 24 ∨ 27 < a → S1 a = S0 a := hf
    refine ⟨(S1, nI (tS T n (tL T))), ?_, hr, hf⟩
    show i_X5_layOut_57 S1 (nI (tS T n (tL T))) = _
    unfold i_X5_layOut_57
    rw [hf 2 (by decide), f1 2 (by decide) (by decide) (by decide), h3, if_pos (by rw [nle (by omega) (by omega)]; omega)]) (S0, (0 : Int32)) ⟨rfl, fun l hl => absurd hl (Nat.not_lt_zero l), fun _ _ => rfl⟩ (by have := bigN; omega)
  rw [u1, bd_s]
  refine ⟨_, rfl, ⟨by rw [u3 1 (by decide)]; exact f10, by rw [u3 1 (by decide)]; exact f13, fun l hl => by rw [u3 22 (by decide)]; exact (f22 l hl).1, fun s hs => (u2 s hs).1⟩, fun l hl => by rw [u3 23 (by decide)]; exact (f22 l hl).2, fun s hs => (u2 s hs).2, fun a a1 a2 => ?_⟩
  rw [u3 a (by omega), f1 a a1 (by omega) (by omega)]
