/-! odds -/
def sumN (f : Nat → Nat) : Nat → Nat
  | 0 => 0
  | n + 1 => sumN f n + f n
theorem sumN_cong {f g : Nat → Nat} : ∀ {n : Nat}, (∀ k, k < n → f k = g k) → sumN f n = sumN g n
  | 0, _ => rfl
  | n + 1, h => by rw [sumN, sumN, sumN_cong (fun k hk => h k (by omega)), h n (by omega)]
theorem sumN_add (f g : Nat → Nat) : ∀ n, sumN (fun k => f k + g k) n = sumN f n + sumN g n
  | 0 => rfl
  | n + 1 => by rw [sumN, sumN, sumN, sumN_add f g n]; omega
theorem sumN_zero : ∀ n, sumN (fun _ => 0) n = 0
  | 0 => rfl
  | n + 1 => by rw [sumN, sumN_zero n]
theorem sumN_swap (f : Nat → Nat → Nat) (b : Nat) : ∀ a, sumN (fun q => sumN (fun d => f q d) b) a = sumN (fun d => sumN (fun q => f q d) a) b
  | 0 => by
    show 0 = sumN (fun _ => 0) b
    rw [sumN_zero]
  | a + 1 => by
    rw [sumN, sumN_swap f b a, ← sumN_add]
    rfl
theorem sumN_app (f : Nat → Nat) (m : Nat) : ∀ n, sumN f (m + n) = sumN f m + sumN (fun k => f (m + k)) n
  | 0 => rfl
  | n + 1 => by
    show sumN f (m + n) + f (m + n) = sumN f m + (sumN (fun k => f (m + k)) n + f (m + n))
    rw [sumN_app f m n]
    omega
theorem sumN_mul (f : Nat → Nat) (b : Nat) : ∀ a, sumN f (a * b) = sumN (fun q => sumN (fun d => f (q * b + d)) b) a
  | 0 => by rw [Nat.zero_mul]; rfl
  | a + 1 => by rw [Nat.succ_mul, sumN_app, sumN_mul f b a]; rfl
theorem sumN_le {f : Nat → Nat} {c : Nat} : ∀ {n : Nat}, (∀ k, k < n → f k ≤ c) → sumN f n ≤ n * c
  | 0, _ => by rw [Nat.zero_mul]; exact Nat.le_refl 0
  | n + 1, h => by
    have h1 := sumN_le (f := f) (c := c) (n := n) (fun k hk => h k (by omega))
    have h2 := h n (by omega)
    rw [sumN, Nat.succ_mul]
    omega
def dkb (D : HD) (r : Nat → Nat) : Nat := if dk D r = nl D then 1 else 0
/-- how many rows of n presses make all dark -/
def cw (D : HD) : Nat → (Nat → Nat) → Nat
  | 0, r => dkb D r
  | n + 1, r => sumN (fun s => cw D n (prs D s 1 r)) (ns D)
theorem dk_cong {D : HD} {r r' : Nat → Nat} (h : ∀ l, l < nl D → r l = r' l) : dk D r = dk D r' := cnt_cong (fun k hk => by rw [h k hk])
theorem prs_cong {D : HD} {s n : Nat} {r r' : Nat → Nat} (h : ∀ l, l < nl D → r l = r' l) : ∀ l, l < nl D → prs D s n r l = prs D s n r' l := fun l hl => by unfold prs; rw [h l hl]
theorem cw_le (D : HD) : ∀ n r, cw D n r ≤ ns D ^ n
  | 0, r => by
    show dkb D r ≤ 1
    unfold dkb
    split <;> omega
  | n + 1, r => by
    have := sumN_le (f := fun s => cw D n (prs D s 1 r)) (c := ns D ^ n) (n := ns D) (fun s _ => cw_le D n _)
    rw [Nat.pow_succ, Nat.mul_comm]
    exact this
/-- the row behind the presses that a number tells -/
def fr (D : HD) : Nat → (Nat → Nat) → Nat → (Nat → Nat)
  | 0, r, _ => r
  | n + 1, r, num => fr D n (prs D (num % ns D) 1 r) (num / ns D)
theorem cw_sum (D : HD) (h0 : 0 < ns D) : ∀ n r, sumN (fun num => dkb D (fr D n r num)) (ns D ^ n) = cw D n r
  | 0, r => by
    show 0 + dkb D r = dkb D r
    omega
  | n + 1, r => by
    rw [Nat.pow_succ, sumN_mul, sumN_swap]
    show _ = sumN (fun s => cw D n (prs D s 1 r)) (ns D)
    refine sumN_cong (fun d hd => ?_)
    rw [← cw_sum D h0 n]
    refine sumN_cong (fun q _ => ?_)
    show dkb D (fr D n (prs D ((q * ns D + d) % ns D) 1 r) ((q * ns D + d) / ns D)) = _
    rw [show (q * ns D + d) % ns D = d by rw [Nat.mul_comm, Nat.mul_add_mod, Nat.mod_eq_of_lt hd], show (q * ns D + d) / ns D = q by rw [Nat.mul_comm, Nat.mul_add_div h0, Nat.div_eq_of_lt hd, Nat.add_zero]]
theorem mod_back {r t b : Nat} (hr : r < b) (ht : t < b) : ((r + t) % b + 5 * b - t) % b = r := by
  by_cases h : r + t < b
  · rw [Nat.mod_eq_of_lt h, show r + t + 5 * b - t = r + b * 5 by omega, Nat.add_mul_mod_self_left, Nat.mod_eq_of_lt hr]
  · rw [show (r + t) % b = r + t - b by rw [Nat.mod_eq_sub_mod (by omega), Nat.mod_eq_of_lt (by omega)], show r + t - b + 5 * b - t = r + b * 4 by omega, Nat.add_mul_mod_self_left, Nat.mod_eq_of_lt hr]
def RT (D : HD) (S0 : St) (r : Nat → Nat) (S : St) : Prop := (∀ a, a ≠ 21 → S a = S0 a) ∧ ∀ l, l < nl D → S 21 l = nI (r l)
theorem X_there {S : St} {D : HD} (h : XH S D) (g : GH D) {s : Nat} (hs : s < ns D) {r : Nat → Nat} (hr : ∀ l, l < nl D → S 21 l = nI (r l)) (hb : rok D r) : ∃ S', f_X1_turnOn S 21 (nI s) (1 : Int32) = some S' ∧ RT D S (prs D s 1 r) S' :=
  ⟨_, X_press h g (k := 21) (n := 1) ⟨by decide, by decide⟩ (by decide) (by decide) hs hr hb (by decide), fun a ha => fill_ne _ _ _ _ ha, fun l hl => fill_lo hl⟩
theorem X_again {S : St} {D : HD} (h : XH S D) (g : GH D) {s : Nat} (hs : s < ns D) {r : Nat → Nat} (hr : ∀ l, l < nl D → S 21 l = nI (prs D s 1 r l)) (hb : rok D r) : ∃ S', f_X1_turnOn S 21 (nI s) (-1 : Int32) = some S' ∧ RT D S r S' := by
  refine ⟨_, X_turnOn h g (k := 21) ⟨by decide, by decide⟩ (by decide) (by decide) hs hr (-1) r (fun l hl => ?_), fun a ha => fill_ne _ _ _ _ ha, fun l hl => fill_lo hl⟩
  have h1 := g.2.2.1 l hl
  have h2 := prs_lt g (s := s) (n := 1) (r := r) hl
  have h3 := stp_lt g (s := s) hl
  rw [wrap_m _ (by omega) _ (by omega) _ (by omega) (by omega)]
  unfold prs
  rw [Nat.one_mul, mod_back (hb l hl) h3]
theorem X_rows0 {S : St} {D : HD} (h : XH S D) (g : GH D) {r : Nat → Nat} (hr : ∀ l, l < nl D → S 21 l = nI (r l)) (hb : rok D r) : (bd (f_X1_darkIn S 21) fun r11 => if r11 = (S 1 0) then (some ((1 : Int32), S)) else (some ((0 : Int32), S))) = some (nI (cw D 0 r), S) := by
  have h5 := g.1
  have hdk := dk_le (D := D) r
  rw [X_dark h g (k := 21) ⟨by decide, by decide⟩ (by decide) hr hb, bd_s, h.1]
  show _ = some (nI (dkb D r), S)
  unfold dkb
  by_cases e : dk D r = nl D
  · rw [if_pos (by rw [e]), if_pos e]
    rfl
  · rw [if_neg (show ¬ nI (dk D r) = nI (nl D) by rw [neq (by omega) (by omega)]; exact e), if_neg e]
    rfl
theorem X_rows_0 {D : HD} (g : GH D) (n : Nat) (hn : n ≤ 0) (_ : n ≤ 4) (S : St) (r : Nat → Nat) (h : XH S D) (hr : ∀ l, l < nl D → S 21 l = nI (r l)) (hb : rok D r) : ∃ S', f_X6_darkRows_0 S 21 (nI n) = some (nI (cw D n r), S') ∧ RT D S r S' := by
  have : n = 0 := by omega
  subst this
  unfold f_X6_darkRows_0 j_X6_darkRows_0_9
  rw [ck_t ⟨by decide, by decide⟩, if_pos (by decide), X_rows0 h g hr hb]
  exact ⟨S, rfl, fun _ _ => rfl, hr⟩
theorem X_rows_1 {D : HD} (g : GH D) (n : Nat) (hn : n ≤ 1) (h4 : n ≤ 4) (S : St) (r : Nat → Nat) (h : XH S D) (hr : ∀ l, l < nl D → S 21 l = nI (r l)) (hb : rok D r) : ∃ S', f_X6_darkRows_1 S 21 (nI n) = some (nI (cw D n r), S') ∧ RT D S r S' := by
  have hs5 := g.2.1
  unfold f_X6_darkRows_1 j_X6_darkRows_1_9
  rw [ck_t ⟨by decide, by decide⟩]
  rcases Nat.eq_zero_or_pos n with h0 | h0
  · subst h0
    rw [if_pos (by decide), X_rows0 h g hr hb]
    exact ⟨S, rfl, fun _ _ => rfl, hr⟩
  obtain ⟨m, rfl⟩ : ∃ m, n = m + 1 := ⟨n - 1, by omega⟩
  rw [if_neg (show ¬ nI (m + 1) ≤ (0 : Int32) from nI_nle (by omega) (by omega)), if_pos (show nI (m + 1) ≤ (4 : Int32) by rw [show (4 : Int32) = nI 4 from rfl, nle (by omega) (by decide)]; omega)]
  obtain ⟨t, ht, S', x, rfl, hS'⟩ := iter_rel (it := fun q => i_X6_darkRows_1_32 q.1 21 (nI (m + 1)) q.2.1 q.2.2) (fun s q => q.2.2 = nI s ∧ q.2.1 = nI (sumN (fun t => cw D m (prs D t 1 r)) s) ∧ RT D S r q.1) (fun t => ∃ S' x, t = (S', nI (cw D (m + 1) r), x) ∧ RT D S r S') (ns D) (by
    rintro s ⟨S1, d1, x1⟩ hs ⟨rfl, rfl, hR⟩
    have hR : RT D S r S1 := hR
    have hx1 : XH S1 D := h.fr (fun a ha => hR.1 a (by omega))
    obtain ⟨S2, e2, hR2⟩ := X_there hx1 g hs hR.2 hb
    have hx2 : XH S2 D := hx1.fr (fun a ha => hR2.1 a (by omega))
    obtain ⟨S3, e3, hR3⟩ := X_rows_0 g m (by omega) (by omega) S2 (prs D s 1 r) hx2 hR2.2 (fun l hl => prs_lt g hl)
    have hx3 : XH S3 D := hx2.fr (fun a ha => hR3.1 a (by omega))
    obtain ⟨S4, e4, hR4⟩ := X_again hx3 g hs hR3.2 hb
    refine ⟨(S4, nI (sumN (fun t => cw D m (prs D t 1 r)) (s + 1)), nI (s + 1)), ?_, rfl, rfl, fun a ha => (hR4.1 a ha).trans ((hR3.1 a ha).trans ((hR2.1 a ha).trans (hR.1 a ha))), hR4.2⟩
    show i_X6_darkRows_1_32 S1 21 (nI (m + 1)) (nI (sumN (fun t => cw D m (prs D t 1 r)) s)) (nI s) = _
    unfold i_X6_darkRows_1_32
    rw [hx1.2.1, if_neg (by rw [nle (by omega) (by omega)]; omega), e2, bd_s, nI_pred, e3, bd_s]
    dsimp only
    rw [e4, bd_s, nI_add, nadd1]
    rfl) (by
    rintro ⟨S1, d1, x1⟩ ⟨rfl, rfl, hR⟩
    have hR : RT D S r S1 := hR
    refine ⟨_, ?_, S1, nI (ns D), rfl, hR⟩
    show i_X6_darkRows_1_32 S1 21 (nI (m + 1)) (nI (sumN (fun t => cw D m (prs D t 1 r)) (ns D))) (nI (ns D)) = _
    unfold i_X6_darkRows_1_32
    rw [hR.1 1 (by decide), h.2.1, if_pos (by rw [nle (by omega) (by omega)]; omega)]
    rfl) (S, (0 : Int32), (0 : Int32)) ⟨rfl, rfl, fun _ _ => rfl, hr⟩ (by have := bigN; omega)
  rw [ht, bd_s]
  exact ⟨S', rfl, hS'⟩
theorem X_rows_2 {D : HD} (g : GH D) (n : Nat) (hn : n ≤ 2) (h4 : n ≤ 4) (S : St) (r : Nat → Nat) (h : XH S D) (hr : ∀ l, l < nl D → S 21 l = nI (r l)) (hb : rok D r) : ∃ S', f_X6_darkRows_2 S 21 (nI n) = some (nI (cw D n r), S') ∧ RT D S r S' := by
  have hs5 := g.2.1
  unfold f_X6_darkRows_2 j_X6_darkRows_2_9
  rw [ck_t ⟨by decide, by decide⟩]
  rcases Nat.eq_zero_or_pos n with h0 | h0
  · subst h0
    rw [if_pos (by decide), X_rows0 h g hr hb]
    exact ⟨S, rfl, fun _ _ => rfl, hr⟩
  obtain ⟨m, rfl⟩ : ∃ m, n = m + 1 := ⟨n - 1, by omega⟩
  rw [if_neg (show ¬ nI (m + 1) ≤ (0 : Int32) from nI_nle (by omega) (by omega)), if_pos (show nI (m + 1) ≤ (4 : Int32) by rw [show (4 : Int32) = nI 4 from rfl, nle (by omega) (by decide)]; omega)]
  obtain ⟨t, ht, S', x, rfl, hS'⟩ := iter_rel (it := fun q => i_X6_darkRows_2_32 q.1 21 (nI (m + 1)) q.2.1 q.2.2) (fun s q => q.2.2 = nI s ∧ q.2.1 = nI (sumN (fun t => cw D m (prs D t 1 r)) s) ∧ RT D S r q.1) (fun t => ∃ S' x, t = (S', nI (cw D (m + 1) r), x) ∧ RT D S r S') (ns D) (by
    rintro s ⟨S1, d1, x1⟩ hs ⟨rfl, rfl, hR⟩
    have hR : RT D S r S1 := hR
    have hx1 : XH S1 D := h.fr (fun a ha => hR.1 a (by omega))
    obtain ⟨S2, e2, hR2⟩ := X_there hx1 g hs hR.2 hb
    have hx2 : XH S2 D := hx1.fr (fun a ha => hR2.1 a (by omega))
    obtain ⟨S3, e3, hR3⟩ := X_rows_1 g m (by omega) (by omega) S2 (prs D s 1 r) hx2 hR2.2 (fun l hl => prs_lt g hl)
    have hx3 : XH S3 D := hx2.fr (fun a ha => hR3.1 a (by omega))
    obtain ⟨S4, e4, hR4⟩ := X_again hx3 g hs hR3.2 hb
    refine ⟨(S4, nI (sumN (fun t => cw D m (prs D t 1 r)) (s + 1)), nI (s + 1)), ?_, rfl, rfl, fun a ha => (hR4.1 a ha).trans ((hR3.1 a ha).trans ((hR2.1 a ha).trans (hR.1 a ha))), hR4.2⟩
    show i_X6_darkRows_2_32 S1 21 (nI (m + 1)) (nI (sumN (fun t => cw D m (prs D t 1 r)) s)) (nI s) = _
    unfold i_X6_darkRows_2_32
    rw [hx1.2.1, if_neg (by rw [nle (by omega) (by omega)]; omega), e2, bd_s, nI_pred, e3, bd_s]
    dsimp only
    rw [e4, bd_s, nI_add, nadd1]
    rfl) (by
    rintro ⟨S1, d1, x1⟩ ⟨rfl, rfl, hR⟩
    have hR : RT D S r S1 := hR
    refine ⟨_, ?_, S1, nI (ns D), rfl, hR⟩
    show i_X6_darkRows_2_32 S1 21 (nI (m + 1)) (nI (sumN (fun t => cw D m (prs D t 1 r)) (ns D))) (nI (ns D)) = _
    unfold i_X6_darkRows_2_32
    rw [hR.1 1 (by decide), h.2.1, if_pos (by rw [nle (by omega) (by omega)]; omega)]
    rfl) (S, (0 : Int32), (0 : Int32)) ⟨rfl, rfl, fun _ _ => rfl, hr⟩ (by have := bigN; omega)
  rw [ht, bd_s]
  exact ⟨S', rfl, hS'⟩
theorem X_rows_3 {D : HD} (g : GH D) (n : Nat) (hn : n ≤ 3) (h4 : n ≤ 4) (S : St) (r : Nat → Nat) (h : XH S D) (hr : ∀ l, l < nl D → S 21 l = nI (r l)) (hb : rok D r) : ∃ S', f_X6_darkRows_3 S 21 (nI n) = some (nI (cw D n r), S') ∧ RT D S r S' := by
  have hs5 := g.2.1
  unfold f_X6_darkRows_3 j_X6_darkRows_3_9
  rw [ck_t ⟨by decide, by decide⟩]
  rcases Nat.eq_zero_or_pos n with h0 | h0
  · subst h0
    rw [if_pos (by decide), X_rows0 h g hr hb]
    exact ⟨S, rfl, fun _ _ => rfl, hr⟩
  obtain ⟨m, rfl⟩ : ∃ m, n = m + 1 := ⟨n - 1, by omega⟩
  rw [if_neg (show ¬ nI (m + 1) ≤ (0 : Int32) from nI_nle (by omega) (by omega)), if_pos (show nI (m + 1) ≤ (4 : Int32) by rw [show (4 : Int32) = nI 4 from rfl, nle (by omega) (by decide)]; omega)]
  obtain ⟨t, ht, S', x, rfl, hS'⟩ := iter_rel (it := fun q => i_X6_darkRows_3_32 q.1 21 (nI (m + 1)) q.2.1 q.2.2) (fun s q => q.2.2 = nI s ∧ q.2.1 = nI (sumN (fun t => cw D m (prs D t 1 r)) s) ∧ RT D S r q.1) (fun t => ∃ S' x, t = (S', nI (cw D (m + 1) r), x) ∧ RT D S r S') (ns D) (by
    rintro s ⟨S1, d1, x1⟩ hs ⟨rfl, rfl, hR⟩
    have hR : RT D S r S1 := hR
    have hx1 : XH S1 D := h.fr (fun a ha => hR.1 a (by omega))
    obtain ⟨S2, e2, hR2⟩ := X_there hx1 g hs hR.2 hb
    have hx2 : XH S2 D := hx1.fr (fun a ha => hR2.1 a (by omega))
    obtain ⟨S3, e3, hR3⟩ := X_rows_2 g m (by omega) (by omega) S2 (prs D s 1 r) hx2 hR2.2 (fun l hl => prs_lt g hl)
    have hx3 : XH S3 D := hx2.fr (fun a ha => hR3.1 a (by omega))
    obtain ⟨S4, e4, hR4⟩ := X_again hx3 g hs hR3.2 hb
    refine ⟨(S4, nI (sumN (fun t => cw D m (prs D t 1 r)) (s + 1)), nI (s + 1)), ?_, rfl, rfl, fun a ha => (hR4.1 a ha).trans ((hR3.1 a ha).trans ((hR2.1 a ha).trans (hR.1 a ha))), hR4.2⟩
    show i_X6_darkRows_3_32 S1 21 (nI (m + 1)) (nI (sumN (fun t => cw D m (prs D t 1 r)) s)) (nI s) = _
    unfold i_X6_darkRows_3_32
    rw [hx1.2.1, if_neg (by rw [nle (by omega) (by omega)]; omega), e2, bd_s, nI_pred, e3, bd_s]
    dsimp only
    rw [e4, bd_s, nI_add, nadd1]
    rfl) (by
    rintro ⟨S1, d1, x1⟩ ⟨rfl, rfl, hR⟩
    have hR : RT D S r S1 := hR
    refine ⟨_, ?_, S1, nI (ns D), rfl, hR⟩
    show i_X6_darkRows_3_32 S1 21 (nI (m + 1)) (nI (sumN (fun t => cw D m (prs D t 1 r)) (ns D))) (nI (ns D)) = _
    unfold i_X6_darkRows_3_32
    rw [hR.1 1 (by decide), h.2.1, if_pos (by rw [nle (by omega) (by omega)]; omega)]
    rfl) (S, (0 : Int32), (0 : Int32)) ⟨rfl, rfl, fun _ _ => rfl, hr⟩ (by have := bigN; omega)
  rw [ht, bd_s]
  exact ⟨S', rfl, hS'⟩
theorem X_rows_4 {D : HD} (g : GH D) (n : Nat) (hn : n ≤ 4) (h4 : n ≤ 4) (S : St) (r : Nat → Nat) (h : XH S D) (hr : ∀ l, l < nl D → S 21 l = nI (r l)) (hb : rok D r) : ∃ S', f_X6_darkRows_4 S 21 (nI n) = some (nI (cw D n r), S') ∧ RT D S r S' := by
  have hs5 := g.2.1
  unfold f_X6_darkRows_4 j_X6_darkRows_4_9
  rw [ck_t ⟨by decide, by decide⟩]
  rcases Nat.eq_zero_or_pos n with h0 | h0
  · subst h0
    rw [if_pos (by decide), X_rows0 h g hr hb]
    exact ⟨S, rfl, fun _ _ => rfl, hr⟩
  obtain ⟨m, rfl⟩ : ∃ m, n = m + 1 := ⟨n - 1, by omega⟩
  rw [if_neg (show ¬ nI (m + 1) ≤ (0 : Int32) from nI_nle (by omega) (by omega)), if_pos (show nI (m + 1) ≤ (4 : Int32) by rw [show (4 : Int32) = nI 4 from rfl, nle (by omega) (by decide)]; omega)]
  obtain ⟨t, ht, S', x, rfl, hS'⟩ := iter_rel (it := fun q => i_X6_darkRows_4_32 q.1 21 (nI (m + 1)) q.2.1 q.2.2) (fun s q => q.2.2 = nI s ∧ q.2.1 = nI (sumN (fun t => cw D m (prs D t 1 r)) s) ∧ RT D S r q.1) (fun t => ∃ S' x, t = (S', nI (cw D (m + 1) r), x) ∧ RT D S r S') (ns D) (by
    rintro s ⟨S1, d1, x1⟩ hs ⟨rfl, rfl, hR⟩
    have hR : RT D S r S1 := hR
    have hx1 : XH S1 D := h.fr (fun a ha => hR.1 a (by omega))
    obtain ⟨S2, e2, hR2⟩ := X_there hx1 g hs hR.2 hb
    have hx2 : XH S2 D := hx1.fr (fun a ha => hR2.1 a (by omega))
    obtain ⟨S3, e3, hR3⟩ := X_rows_3 g m (by omega) (by omega) S2 (prs D s 1 r) hx2 hR2.2 (fun l hl => prs_lt g hl)
    have hx3 : XH S3 D := hx2.fr (fun a ha => hR3.1 a (by omega))
    obtain ⟨S4, e4, hR4⟩ := X_again hx3 g hs hR3.2 hb
    refine ⟨(S4, nI (sumN (fun t => cw D m (prs D t 1 r)) (s + 1)), nI (s + 1)), ?_, rfl, rfl, fun a ha => (hR4.1 a ha).trans ((hR3.1 a ha).trans ((hR2.1 a ha).trans (hR.1 a ha))), hR4.2⟩
    show i_X6_darkRows_4_32 S1 21 (nI (m + 1)) (nI (sumN (fun t => cw D m (prs D t 1 r)) s)) (nI s) = _
    unfold i_X6_darkRows_4_32
    rw [hx1.2.1, if_neg (by rw [nle (by omega) (by omega)]; omega), e2, bd_s, nI_pred, e3, bd_s]
    dsimp only
    rw [e4, bd_s, nI_add, nadd1]
    rfl) (by
    rintro ⟨S1, d1, x1⟩ ⟨rfl, rfl, hR⟩
    have hR : RT D S r S1 := hR
    refine ⟨_, ?_, S1, nI (ns D), rfl, hR⟩
    show i_X6_darkRows_4_32 S1 21 (nI (m + 1)) (nI (sumN (fun t => cw D m (prs D t 1 r)) (ns D))) (nI (ns D)) = _
    unfold i_X6_darkRows_4_32
    rw [hR.1 1 (by decide), h.2.1, if_pos (by rw [nle (by omega) (by omega)]; omega)]
    rfl) (S, (0 : Int32), (0 : Int32)) ⟨rfl, rfl, fun _ _ => rfl, hr⟩ (by have := bigN; omega)
  rw [ht, bd_s]
  exact ⟨S', rfl, hS'⟩
theorem X_rows_5 {D : HD} (g : GH D) (n : Nat) (hn : n ≤ 5) (h4 : n ≤ 4) (S : St) (r : Nat → Nat) (h : XH S D) (hr : ∀ l, l < nl D → S 21 l = nI (r l)) (hb : rok D r) : ∃ S', f_X6_darkRows_5 S 21 (nI n) = some (nI (cw D n r), S') ∧ RT D S r S' := by
  have hs5 := g.2.1
  unfold f_X6_darkRows_5 j_X6_darkRows_5_9
  rw [ck_t ⟨by decide, by decide⟩]
  rcases Nat.eq_zero_or_pos n with h0 | h0
  · subst h0
    rw [if_pos (by decide), X_rows0 h g hr hb]
    exact ⟨S, rfl, fun _ _ => rfl, hr⟩
  obtain ⟨m, rfl⟩ : ∃ m, n = m + 1 := ⟨n - 1, by omega⟩
  rw [if_neg (show ¬ nI (m + 1) ≤ (0 : Int32) from nI_nle (by omega) (by omega)), if_pos (show nI (m + 1) ≤ (4 : Int32) by rw [show (4 : Int32) = nI 4 from rfl, nle (by omega) (by decide)]; omega)]
  obtain ⟨t, ht, S', x, rfl, hS'⟩ := iter_rel (it := fun q => i_X6_darkRows_5_32 q.1 21 (nI (m + 1)) q.2.1 q.2.2) (fun s q => q.2.2 = nI s ∧ q.2.1 = nI (sumN (fun t => cw D m (prs D t 1 r)) s) ∧ RT D S r q.1) (fun t => ∃ S' x, t = (S', nI (cw D (m + 1) r), x) ∧ RT D S r S') (ns D) (by
    rintro s ⟨S1, d1, x1⟩ hs ⟨rfl, rfl, hR⟩
    have hR : RT D S r S1 := hR
    have hx1 : XH S1 D := h.fr (fun a ha => hR.1 a (by omega))
    obtain ⟨S2, e2, hR2⟩ := X_there hx1 g hs hR.2 hb
    have hx2 : XH S2 D := hx1.fr (fun a ha => hR2.1 a (by omega))
    obtain ⟨S3, e3, hR3⟩ := X_rows_4 g m (by omega) (by omega) S2 (prs D s 1 r) hx2 hR2.2 (fun l hl => prs_lt g hl)
    have hx3 : XH S3 D := hx2.fr (fun a ha => hR3.1 a (by omega))
    obtain ⟨S4, e4, hR4⟩ := X_again hx3 g hs hR3.2 hb
    refine ⟨(S4, nI (sumN (fun t => cw D m (prs D t 1 r)) (s + 1)), nI (s + 1)), ?_, rfl, rfl, fun a ha => (hR4.1 a ha).trans ((hR3.1 a ha).trans ((hR2.1 a ha).trans (hR.1 a ha))), hR4.2⟩
    show i_X6_darkRows_5_32 S1 21 (nI (m + 1)) (nI (sumN (fun t => cw D m (prs D t 1 r)) s)) (nI s) = _
    unfold i_X6_darkRows_5_32
    rw [hx1.2.1, if_neg (by rw [nle (by omega) (by omega)]; omega), e2, bd_s, nI_pred, e3, bd_s]
    dsimp only
    rw [e4, bd_s, nI_add, nadd1]
    rfl) (by
    rintro ⟨S1, d1, x1⟩ ⟨rfl, rfl, hR⟩
    have hR : RT D S r S1 := hR
    refine ⟨_, ?_, S1, nI (ns D), rfl, hR⟩
    show i_X6_darkRows_5_32 S1 21 (nI (m + 1)) (nI (sumN (fun t => cw D m (prs D t 1 r)) (ns D))) (nI (ns D)) = _
    unfold i_X6_darkRows_5_32
    rw [hR.1 1 (by decide), h.2.1, if_pos (by rw [nle (by omega) (by omega)]; omega)]
    rfl) (S, (0 : Int32), (0 : Int32)) ⟨rfl, rfl, fun _ _ => rfl, hr⟩ (by have := bigN; omega)
  rw [ht, bd_s]
  exact ⟨S', rfl, hS'⟩
/-! the largest that divides both -/
theorem X_gcd : ∀ (k a b j n : Nat), b < 2 ^ k → a < 2 ^ 30 → b < 2 ^ 30 → j + 2 * k ≤ 60 → 2 * k < n → ∃ t, iter (fun q => i_X6_commonDivisor_7 q.1 q.2.1 q.2.2) n (nI a, nI b, nI j) = some t ∧ t.1 = nI (Nat.gcd a b) := by
  have stop : ∀ (a j n : Nat), j ≤ 63 → 0 < n → ∃ t, iter (fun q => i_X6_commonDivisor_7 q.1 q.2.1 q.2.2) n (nI a, nI 0, nI j) = some t ∧ t.1 = nI (Nat.gcd a 0) := by
    intro a j n hj hn
    obtain ⟨m, rfl⟩ : ∃ m, n = m + 1 := ⟨n - 1, by omega⟩
    have e : i_X6_commonDivisor_7 (nI a) (nI 0) (nI j) = some (.inr (nI a, nI 0, nI j)) := by
      unfold i_X6_commonDivisor_7
      rw [if_neg (show ¬ (64 : Int32) ≤ nI j by rw [show (64 : Int32) = nI 64 from rfl, nle (by decide) (by omega)]; omega), if_pos (by decide)]
    refine ⟨(nI a, nI 0, nI j), by simp only [iter, e], ?_⟩
    rw [Nat.gcd_zero_right]
  have step : ∀ (a b j : Nat), 0 < b → a < 2 ^ 30 → b < 2 ^ 30 → j ≤ 63 → i_X6_commonDivisor_7 (nI a) (nI b) (nI j) = some (.inl (nI b, nI (a % b), nI (j + 1))) := by
    intro a b j hb ha hb2 hj
    unfold i_X6_commonDivisor_7
    rw [if_neg (show ¬ (64 : Int32) ≤ nI j by rw [show (64 : Int32) = nI 64 from rfl, nle (by decide) (by omega)]; omega), if_neg (nI_nle hb (by omega)), ck_t (nI_ne0 hb (by omega)), show rem32 (nI a) (nI b) = nI (a % b) from pk_rem (by omega) hb (by omega), nadd1]
  intro k
  induction k with
  | zero =>
    intro a b j n hb ha hb2 hj hn
    have : b = 0 := by omega
    subst this
    exact stop a j n (by omega) (by omega)
  | succ k ih =>
    intro a b j n hb ha hb2 hj hn
    rcases Nat.eq_zero_or_pos b with h0 | h0
    · subst h0
      exact stop a j n (by omega) (by omega)
    obtain ⟨m, rfl⟩ : ∃ m, n = m + 1 := ⟨n - 1, by omega⟩
    have hc := Nat.mod_lt a h0
    simp only [iter, step a b j h0 ha hb2 (by omega)]
    rw [Nat.gcd_comm a b, Nat.gcd_rec, Nat.gcd_comm]
    rcases Nat.eq_zero_or_pos (a % b) with h1 | h1
    · rw [h1]
      exact stop b (j + 1) m (by omega) (by omega)
    obtain ⟨m', rfl⟩ : ∃ m', m = m' + 1 := ⟨m - 1, by omega⟩
    simp only [iter, step b (a % b) (j + 1) h1 hb2 (by omega) (by omega)]
    rw [Nat.gcd_comm b, Nat.gcd_rec, Nat.gcd_comm]
    have hd := Nat.mod_lt b h1
    have hd2 : b % (a % b) + (a % b) ≤ b := by
      have e := Nat.div_add_mod b (a % b)
      have q : 1 ≤ b / (a % b) := (Nat.le_div_iff_mul_le h1).mpr (by omega)
      have : (a % b) * 1 ≤ (a % b) * (b / (a % b)) := Nat.mul_le_mul_left _ q
      omega
    exact ih (a % b) (b % (a % b)) (j + 2) m' (by rw [Nat.pow_succ] at hb; omega) (by omega) (by omega) (by omega) (by omega)
theorem lg0 {b : Nat} (hb : b < 2 ^ 31) : (lg_cmp (lN b) 0 = 0) ↔ b = 0 := by
  unfold lg_cmp
  by_cases h : b = 0
  · subst h
    exact ⟨fun _ => rfl, fun _ => rfl⟩
  · have : lN b > (0 : Int64) := (lN_lt (a := 0) (b := b) (by decide) hb).mpr (by omega)
    rw [if_pos this]
    exact ⟨fun q => absurd q (by decide), fun q => absurd q h⟩
theorem M_gcd (x0 x2 : Int64) (x4 : Int32) : ∀ (k a b n : Nat), b < 2 ^ k → a < 2 ^ 30 → b < 2 ^ 30 → 2 * k < n → ∃ t, iter (fun q => i_X7_inLeastTerms_6 x0 x2 x4 q.1 q.2) n (lN a, lN b) = some t ∧ t.1 = lN (Nat.gcd a b) := by
  have stop : ∀ (a n : Nat), 0 < n → ∃ t, iter (fun q => i_X7_inLeastTerms_6 x0 x2 x4 q.1 q.2) n (lN a, lN 0) = some t ∧ t.1 = lN (Nat.gcd a 0) := by
    intro a n hn
    obtain ⟨m, rfl⟩ : ∃ m, n = m + 1 := ⟨n - 1, by omega⟩
    have e : i_X7_inLeastTerms_6 x0 x2 x4 (lN a) (lN 0) = some (.inr (lN a, lN 0)) := by
      unfold i_X7_inLeastTerms_6
      rw [if_pos ((lg0 (by decide)).mpr rfl)]
    refine ⟨(lN a, lN 0), by simp only [iter, e], ?_⟩
    rw [Nat.gcd_zero_right]
  have step : ∀ (a b : Nat), 0 < b → a < 2 ^ 30 → b < 2 ^ 30 → i_X7_inLeastTerms_6 x0 x2 x4 (lN a) (lN b) = some (.inl (lN b, lN (a % b))) := by
    intro a b hb ha hb2
    unfold i_X7_inLeastTerms_6
    rw [if_neg (fun q => absurd ((lg0 (by omega)).mp q) (by omega)), ck_t (show ¬ lN b = 0 from fun q => absurd ((lN_eq (a := b) (b := 0) (by omega) (by decide)).mp q) (by omega)), show rem64 (lN a) (lN b) = lN (a % b) from pk_lRem (by omega) hb (by omega)]
  intro k
  induction k with
  | zero =>
    intro a b n hb ha hb2 hn
    have : b = 0 := by omega
    subst this
    exact stop a n (by omega)
  | succ k ih =>
    intro a b n hb ha hb2 hn
    rcases Nat.eq_zero_or_pos b with h0 | h0
    · subst h0
      exact stop a n (by omega)
    obtain ⟨m, rfl⟩ : ∃ m, n = m + 1 := ⟨n - 1, by omega⟩
    have hc := Nat.mod_lt a h0
    simp only [iter, step a b h0 ha hb2]
    rw [Nat.gcd_comm a b, Nat.gcd_rec, Nat.gcd_comm]
    rcases Nat.eq_zero_or_pos (a % b) with h1 | h1
    · rw [h1]
      exact stop b m (by omega)
    obtain ⟨m', rfl⟩ : ∃ m', m = m' + 1 := ⟨m - 1, by omega⟩
    simp only [iter, step b (a % b) h1 hb2 (by omega)]
    rw [Nat.gcd_comm b, Nat.gcd_rec, Nat.gcd_comm]
    have hd := Nat.mod_lt b h1
    have hd2 : b % (a % b) + (a % b) ≤ b := by
      have e := Nat.div_add_mod b (a % b)
      have q : 1 ≤ b / (a % b) := (Nat.le_div_iff_mul_le h1).mpr (by omega)
      have : (a % b) * 1 ≤ (a % b) * (b / (a % b)) := Nat.mul_le_mul_left _ q
      omega
    exact ih (a % b) (b % (a % b)) m' (by rw [Nat.pow_succ] at hb; omega) (by omega) (by omega) (by omega)
