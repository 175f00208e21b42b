/-! numbers of mixed digits -/
theorem wt_pos {D : HD} (g : GH D) : ∀ {l : Nat}, l ≤ nl D → 0 < wt D l
  | 0, _ => by show 0 < 1; decide
  | l + 1, h => by
    have h1 := wt_pos g (l := l) (by omega)
    have h2 := (g.2.2.1 l (by omega)).1
    exact Nat.mul_pos h1 (by omega)
theorem wt_le {D : HD} (g : GH D) : ∀ {l : Nat}, l ≤ nl D → wt D l ≤ 5 ^ l
  | 0, _ => Nat.le_refl 1
  | l + 1, h => by
    have h1 := wt_le g (l := l) (by omega)
    have h2 := (g.2.2.1 l (by omega)).2
    rw [Nat.pow_succ]
    exact Nat.mul_le_mul h1 h2
theorem wt_3125 {D : HD} (g : GH D) {l : Nat} (h : l ≤ nl D) : wt D l ≤ 3125 := Nat.le_trans (wt_le g h) (Nat.le_trans (Nat.pow_le_pow_right (by decide) (Nat.le_trans h g.1)) (by decide))
theorem tot_le {D : HD} (g : GH D) : tot D ≤ 3125 := wt_3125 g (Nat.le_refl _)
theorem tot_pos {D : HD} (g : GH D) : 0 < tot D := wt_pos g (Nat.le_refl _)
theorem wt_dvd {D : HD} {l : Nat} : ∀ (m : Nat), ∃ c, wt D (l + m) = wt D l * c
  | 0 => ⟨1, by rw [Nat.mul_one]; rfl⟩
  | m + 1 => by
    obtain ⟨c, hc⟩ := wt_dvd (D := D) (l := l) m
    refine ⟨c * sh D (l + m), ?_⟩
    show wt D (l + m) * sh D (l + m) = _
    rw [hc, Nat.mul_assoc]
theorem enc_lt {D : HD} (g : GH D) {r : Nat → Nat} (hr : rok D r) : ∀ {n : Nat}, n ≤ nl D → enc D r n < wt D n
  | 0, _ => by show 0 < 1; decide
  | n + 1, h => by
    have h1 := enc_lt g hr (n := n) (by omega)
    have h2 := hr n (by omega)
    show enc D r n + r n * wt D n < wt D n * sh D n
    have h3 : (r n + 1) * wt D n ≤ sh D n * wt D n := Nat.mul_le_mul_right _ h2
    rw [Nat.succ_mul] at h3
    rw [Nat.mul_comm (wt D n)]
    omega
theorem dg_lt {D : HD} (g : GH D) {l : Nat} (hl : l < nl D) (x : Nat) : dg D x l < sh D l := Nat.mod_lt _ (by have := (g.2.2.1 l hl).1; omega)
theorem dg_add {D : HD} (g : GH D) {l n : Nat} (hl : l < n) (hn : n ≤ nl D) (a c : Nat) : dg D (a + c * wt D n) l = dg D a l := by
  obtain ⟨q, hq⟩ := wt_dvd (D := D) (l := l + 1) (n - (l + 1))
  rw [show l + 1 + (n - (l + 1)) = n by omega] at hq
  unfold dg
  rw [hq]
  show (a + c * (wt D l * sh D l * q)) / wt D l % sh D l = _
  rw [show c * (wt D l * sh D l * q) = wt D l * (sh D l * (q * c)) by rw [Nat.mul_assoc, Nat.mul_comm c, Nat.mul_assoc, Nat.mul_assoc]]
  rw [Nat.add_mul_div_left _ _ (wt_pos g (by omega)), Nat.add_mul_mod_self_left]
theorem dg_enc {D : HD} (g : GH D) {r : Nat → Nat} (hr : rok D r) : ∀ {n l : Nat}, l < n → n ≤ nl D → dg D (enc D r n) l = r l
  | 0, l, h, _ => absurd h (Nat.not_lt_zero l)
  | n + 1, l, h, hn => by
    show dg D (enc D r n + r n * wt D n) l = r l
    by_cases e : l = n
    · subst e
      have h1 := enc_lt g hr (n := l) (by omega)
      have h2 := hr l (by omega)
      unfold dg
      rw [Nat.mul_comm (r l), Nat.add_mul_div_left _ _ (wt_pos g (by omega)), Nat.div_eq_of_lt h1, Nat.zero_add, Nat.mod_eq_of_lt h2]
    · rw [dg_add g (by omega) (by omega)]
      exact dg_enc g hr (by omega) (by omega)
theorem enc_cong {D : HD} {r r' : Nat → Nat} : ∀ {n : Nat}, (∀ l, l < n → r l = r' l) → enc D r n = enc D r' n
  | 0, _ => rfl
  | n + 1, h => by
    show enc D r n + r n * wt D n = enc D r' n + r' n * wt D n
    rw [enc_cong (fun l hl => h l (by omega)), h n (by omega)]
theorem enc_dg {D : HD} (g : GH D) : ∀ {n x : Nat}, n ≤ nl D → x < wt D n → enc D (dg D x) n = x
  | 0, x, _, h => by
    have h' : x < 1 := h
    show 0 = x
    omega
  | n + 1, x, hn, h => by
    have hp := wt_pos g (l := n) (by omega)
    have h' : x < wt D n * sh D n := h
    have hx : x % wt D n + x / wt D n * wt D n = x := by rw [Nat.mul_comm]; exact Nat.mod_add_div x (wt D n)
    have hd : x / wt D n < sh D n := Nat.div_lt_of_lt_mul h'
    show enc D (dg D x) n + dg D x n * wt D n = x
    have e1 : enc D (dg D x) n = x % wt D n := by
      refine Eq.trans ?_ (enc_dg g (n := n) (x := x % wt D n) (by omega) (Nat.mod_lt _ hp))
      refine enc_cong (fun l hl => ?_)
      have := dg_add g (l := l) (n := n) hl (by omega) (x % wt D n) (x / wt D n)
      rw [hx] at this
      exact this
    have e2 : dg D x n = x / wt D n := Nat.mod_eq_of_lt hd
    rw [e1, e2]
    exact hx
theorem num_ext {D : HD} (g : GH D) {x y : Nat} (hx : x < tot D) (hy : y < tot D) (h : ∀ l, l < nl D → dg D x l = dg D y l) : x = y := by
  rw [← enc_dg g (Nat.le_refl _) hx, ← enc_dg g (Nat.le_refl _) hy]
  exact enc_cong h
theorem dg_0 {D : HD} (l : Nat) : dg D 0 l = 0 := by unfold dg; rw [Nat.zero_div, Nat.zero_mod]
/-! numbers added, digit by digit -/
def addn (D : HD) (x y : Nat) : Nat := enc D (fun l => (dg D x l + dg D y l) % sh D l) (nl D)
def negn (D : HD) (x : Nat) : Nat := enc D (fun l => (sh D l - dg D x l) % sh D l) (nl D)
theorem modr {D : HD} (g : GH D) (f : Nat → Nat) : rok D (fun l => f l % sh D l) := fun l hl => Nat.mod_lt _ (by have := (g.2.2.1 l hl).1; omega)
theorem addn_lt {D : HD} (g : GH D) (x y : Nat) : addn D x y < tot D := enc_lt g (modr g _) (Nat.le_refl _)
theorem negn_lt {D : HD} (g : GH D) (x : Nat) : negn D x < tot D := enc_lt g (modr g _) (Nat.le_refl _)
theorem mvn_lt {D : HD} (g : GH D) (s x : Nat) : mvn D s x < tot D := enc_lt g (modr g _) (Nat.le_refl _)
theorem bkn_lt {D : HD} (g : GH D) (s x : Nat) : bkn D s x < tot D := enc_lt g (modr g _) (Nat.le_refl _)
theorem dg_addn {D : HD} (g : GH D) {l : Nat} (hl : l < nl D) (x y : Nat) : dg D (addn D x y) l = (dg D x l + dg D y l) % sh D l := dg_enc g (modr g _) hl (Nat.le_refl _)
theorem dg_negn {D : HD} (g : GH D) {l : Nat} (hl : l < nl D) (x : Nat) : dg D (negn D x) l = (sh D l - dg D x l) % sh D l := dg_enc g (modr g _) hl (Nat.le_refl _)
theorem dg_mvn {D : HD} (g : GH D) {l : Nat} (hl : l < nl D) (s x : Nat) : dg D (mvn D s x) l = (dg D x l + stp D s l) % sh D l := dg_enc g (modr g _) hl (Nat.le_refl _)
theorem dg_bkn {D : HD} (g : GH D) {l : Nat} (hl : l < nl D) (s x : Nat) : dg D (bkn D s x) l = (dg D x l + sh D l - stp D s l) % sh D l := dg_enc g (modr g _) hl (Nat.le_refl _)
theorem addn_comm (D : HD) (x y : Nat) : addn D x y = addn D y x := enc_cong (fun l _ => by rw [Nat.add_comm])
theorem addn_assoc {D : HD} (g : GH D) (x y z : Nat) : addn D (addn D x y) z = addn D x (addn D y z) := num_ext g (addn_lt g _ _) (addn_lt g _ _) (fun l hl => by
  rw [dg_addn g hl, dg_addn g hl, dg_addn g hl, dg_addn g hl, Nat.mod_add_mod, Nat.add_mod_mod, Nat.add_assoc])
theorem addn_zero {D : HD} (g : GH D) {x : Nat} (hx : x < tot D) : addn D x 0 = x := num_ext g (addn_lt g _ _) hx (fun l hl => by
  rw [dg_addn g hl, dg_0, Nat.add_zero, Nat.mod_eq_of_lt (dg_lt g hl x)])
theorem addn_neg {D : HD} (g : GH D) (x : Nat) : addn D x (negn D x) = 0 := num_ext g (addn_lt g _ _) (tot_pos g) (fun l hl => by
  have := dg_lt g hl x
  rw [dg_addn g hl, dg_negn g hl, dg_0, Nat.add_mod_mod, show dg D x l + (sh D l - dg D x l) = sh D l by omega, Nat.mod_self])
/-- a switch's own number: what it makes of 0 -/
def gs (D : HD) (s : Nat) : Nat := mvn D s 0
theorem gs_lt {D : HD} (g : GH D) (s : Nat) : gs D s < tot D := mvn_lt g s 0
theorem dg_gs {D : HD} (g : GH D) {l : Nat} (hl : l < nl D) (s : Nat) : dg D (gs D s) l = stp D s l := by
  unfold gs
  rw [dg_mvn g hl, dg_0, Nat.zero_add, Nat.mod_eq_of_lt (stp_lt g hl)]
theorem mvn_eq {D : HD} (g : GH D) (s x : Nat) : mvn D s x = addn D x (gs D s) := num_ext g (mvn_lt g _ _) (addn_lt g _ _) (fun l hl => by rw [dg_mvn g hl, dg_addn g hl, dg_gs g hl])
theorem bkn_eq {D : HD} (g : GH D) (s x : Nat) : bkn D s x = addn D x (negn D (gs D s)) := num_ext g (bkn_lt g _ _) (addn_lt g _ _) (fun l hl => by
  have := stp_lt g (s := s) hl
  rw [dg_bkn g hl, dg_addn g hl, dg_negn g hl, dg_gs g hl, Nat.add_mod_mod, show dg D x l + (sh D l - stp D s l) = dg D x l + sh D l - stp D s l by omega])
theorem bk_mv {D : HD} (g : GH D) (s : Nat) {x : Nat} (hx : x < tot D) : bkn D s (mvn D s x) = x := by rw [bkn_eq g, mvn_eq g, addn_assoc g, addn_neg g, addn_zero g hx]
theorem mv_bk {D : HD} (g : GH D) (s : Nat) {x : Nat} (hx : x < tot D) : mvn D s (bkn D s x) = x := by rw [bkn_eq g, mvn_eq g, addn_assoc g, addn_comm D (negn D _), addn_neg g, addn_zero g hx]
/-! the class and the reference reckon with them -/
theorem X_max1 {n : Nat} (h : 1 ≤ n) (hn : n < 100) : f_J9_max_7cf53 (1 : Int32) (nI n) = some (nI n) := by
  unfold f_J9_max_7cf53
  by_cases e : n = 1
  · subst e; rfl
  · rw [if_pos (by rw [n1, nlt (by decide) (by omega)]; omega)]
theorem X_split {S : St} {D : HD} (h : XH S D) (g : GH D) {x : Nat} (hx : x < 2 ^ 30) : f_X2_splitUp S (nI x) = some (fill S 30 (nl D) (fun l => nI (dg D x l))) := by
  have h5 := g.1
  unfold f_X2_splitUp
  rw [iter_to (fun i => (fill S 30 i (fun l => nI (dg D x l)), nI (x / wt D i), nI i)) (nl D) (t := (fill S 30 (nl D) (fun l => nI (dg D x l)), nI (x / wt D (nl D)), nI (nl D))) (by
    rw [fill_0]
    show _ = (S, nI (x / 1), nI 0)
    rw [Nat.div_one]
    rfl), bd_s]
  · intro i hi
    have hsh := g.2.2.1 i hi
    have hw := wt_pos g (l := i) (by omega)
    have hdv : x / wt D i ≤ x := Nat.div_le_self _ _
    show i_X2_splitUp_5 (fill S 30 i (fun l => nI (dg D x l))) (nI (x / wt D i)) (nI i) = _
    unfold i_X2_splitUp_5
    rw [fill_ne _ _ _ _ (show 1 ≠ 30 by decide), fill_ne _ _ _ _ (show 22 ≠ 30 by decide), h.1, if_neg (by rw [nle (by omega) (by omega)]; omega), ck_t (okn (by omega) (by decide)), ixn (by omega), h.2.2.1 i hi, X_max1 (by omega) (by omega), bd_s, ck_t (nI_ne0 (by omega) (by omega)), ck_t (okn (by omega) (by decide)), ck_t (nI_ne0 (by omega) (by omega)), show rem32 (nI (x / wt D i)) (nI (sh D i)) = nI (x / wt D i % sh D i) from pk_rem (by omega) (by omega) (by omega), pk_div (by omega) (by omega) (by omega), Nat.div_div_eq_div_mul, fill_up' (by rfl), nadd1]
    rfl
  · show i_X2_splitUp_5 (fill S 30 (nl D) (fun l => nI (dg D x l))) (nI (x / wt D (nl D))) (nI (nl D)) = _
    unfold i_X2_splitUp_5
    rw [fill_ne _ _ _ _ (show 1 ≠ 30 by decide), h.1, if_pos (by rw [nle (by omega) (by omega)]; omega)]
  · have := bigN; omega
theorem wrap_up {d t b : Nat} (hd : d < b) (ht : t < b) : (d + t) % b = if d + t < b then d + t else d + t - b := by
  by_cases h : d + t < b
  · rw [if_pos h, Nat.mod_eq_of_lt h]
  · rw [if_neg h, Nat.mod_eq_sub_mod (by omega), Nat.mod_eq_of_lt (by omega)]
theorem wrap_dn {d t b : Nat} (hd : d < b) (ht : t < b) : (d + b - t) % b = if t ≤ d then d - t else d + b - t := by
  by_cases h : t ≤ d
  · rw [if_pos h, show d + b - t = (d - t) + b by omega, Nat.add_mod_right, Nat.mod_eq_of_lt (by omega)]
  · rw [if_neg h, Nat.mod_eq_of_lt (by omega)]
theorem enc_le {D : HD} (g : GH D) {r : Nat → Nat} (hr : rok D r) {n : Nat} (hn : n ≤ nl D) : enc D r n < 3125 := Nat.lt_of_lt_of_le (enc_lt g hr hn) (wt_3125 g hn)
/-- what the class's rows for the reach must hold -/
def WS (S : St) (D : HD) : Prop := (∀ l, l < nl D → S 29 l = nI (wt D l)) ∧ ∀ s, s < ns D → ∀ l, l < nl D → S (16 + s) l = nI (stp D s l)
theorem X_numUp {S : St} {D : HD} (h : XH S D) (g : GH D) (hw : WS S D) {s x : Nat} (hs : s < ns D) (hd : ∀ l, l < nl D → S 30 l = nI (dg D x l)) : f_X2_numberBy S (nI s) (1 : Int32) = some (nI (mvn D s x)) := by
  have h5 := g.1
  have hs5 := g.2.1
  unfold f_X2_numberBy
  rw [iter_to (fun i => (nI (enc D (fun l => (dg D x l + stp D s l) % sh D l) i), nI i)) (nl D) (t := (nI (mvn D s x), nI (nl D))) (by rfl), bd_s]
  · intro i hi
    have hsh := g.2.2.1 i hi
    have h1 := dg_lt g hi x
    have h2 := stp_lt g (s := s) hi
    show i_X2_numberBy_6 S (nI s) 1 (nI (enc D (fun l => (dg D x l + stp D s l) % sh D l) i)) (nI i) = _
    unfold i_X2_numberBy_6 j_X2_numberBy_80
    simp only [ck_t (okn (j := i) (n := 5) (by omega) (by decide)), ck_t (okn (j := s) (n := 5) (by omega) (by decide)), ixn (j := i) (by omega), ixn (j := s) (by omega), h.1, if_neg (show ¬ nI (nl D) ≤ nI i by rw [nle (by omega) (by omega)]; omega), hd i hi, hw.1 i hi, hw.2 s hs i hi, h.2.2.1 i hi, show (1 : Int32) * nI (stp D s i) = nI (1 * stp D s i) from pk_mul 1 _, Nat.one_mul, nI_add, if_pos (n0le (a := dg D x i + stp D s i) (by omega)), nlt (a := dg D x i + stp D s i) (b := sh D i) (by omega) (by omega), nadd1, pk_mul]
    show _ = some (Sum.inl (nI (enc D (fun l => (dg D x l + stp D s l) % sh D l) i + (dg D x i + stp D s i) % sh D i * wt D i), nI (i + 1)))
    rw [wrap_up h1 h2]
    by_cases e : dg D x i + stp D s i < sh D i
    · simp only [if_pos e]
    · simp only [if_neg e]
      rw [pk_sub (by omega), pk_mul, nI_add]
  · show i_X2_numberBy_6 S (nI s) 1 (nI (mvn D s x)) (nI (nl D)) = _
    unfold i_X2_numberBy_6
    rw [h.1, if_pos (by rw [nle (by omega) (by omega)]; omega)]
  · have := bigN; omega
theorem neg_sub {a b : Nat} (ha : a < 100) (hb : b < 100) (h : a < b) : nI a + (-1 : Int32) * nI b < 0 ∧ ∀ c, a + c ≥ b → nI a + (-1 : Int32) * nI b + nI c = nI (a + c - b) := by
  have e : nI a + (-1 : Int32) * nI b = nI a - nI b := by
    have : (-1 : Int32) * nI b = - nI b := by rw [Int32.neg_mul, Int32.one_mul]
    rw [this, Int32.sub_eq_add_neg]
  rw [e]
  refine ⟨pk_sneg (by omega) h, fun c hc => ?_⟩
  rw [← pk_sub hc, ← nI_add]
  simp only [Int32.sub_eq_add_neg]
  rw [Int32.add_assoc, Int32.add_comm (-nI b), ← Int32.add_assoc]
theorem pos_sub {a b : Nat} (h : b ≤ a) : nI a + (-1 : Int32) * nI b = nI (a - b) := by
  rw [← pk_sub h, Int32.neg_mul, Int32.one_mul, Int32.sub_eq_add_neg]
theorem X_numDn {S : St} {D : HD} (h : XH S D) (g : GH D) (hw : WS S D) {s x : Nat} (hs : s < ns D) (hd : ∀ l, l < nl D → S 30 l = nI (dg D x l)) : f_X2_numberBy S (nI s) (-1 : Int32) = some (nI (bkn D s x)) := by
  have h5 := g.1
  have hs5 := g.2.1
  unfold f_X2_numberBy
  rw [iter_to (fun i => (nI (enc D (fun l => (dg D x l + sh D l - stp D s l) % sh D l) i), nI i)) (nl D) (t := (nI (bkn D s x), nI (nl D))) (by rfl), bd_s]
  · intro i hi
    have hsh := g.2.2.1 i hi
    have h1 := dg_lt g hi x
    have h2 := stp_lt g (s := s) hi
    show i_X2_numberBy_6 S (nI s) (-1) (nI (enc D (fun l => (dg D x l + sh D l - stp D s l) % sh D l) i)) (nI i) = _
    unfold i_X2_numberBy_6 j_X2_numberBy_80
    simp only [ck_t (okn (j := i) (n := 5) (by omega) (by decide)), ck_t (okn (j := s) (n := 5) (by omega) (by decide)), ixn (j := i) (by omega), ixn (j := s) (by omega), h.1, if_neg (show ¬ nI (nl D) ≤ nI i by rw [nle (by omega) (by omega)]; omega), hd i hi, hw.1 i hi, hw.2 s hs i hi, h.2.2.1 i hi, nadd1]
    show _ = some (Sum.inl (nI (enc D (fun l => (dg D x l + sh D l - stp D s l) % sh D l) i + (dg D x i + sh D i - stp D s i) % sh D i * wt D i), nI (i + 1)))
    rw [wrap_dn h1 h2]
    by_cases e : stp D s i ≤ dg D x i
    · rw [if_pos e, pos_sub e, if_pos (n0le (by omega)), if_pos (by rw [nlt (by omega) (by omega)]; omega), pk_mul, nI_add]
    · obtain ⟨n1, n2⟩ := neg_sub (a := dg D x i) (b := stp D s i) (by omega) (by omega) (by omega)
      rw [if_neg e, if_neg (by rw [Int32.le_iff_toInt_le]; rw [Int32.lt_iff_toInt_lt] at n1; omega), n2 (sh D i) (by omega), pk_mul, nI_add]
  · show i_X2_numberBy_6 S (nI s) (-1) (nI (bkn D s x)) (nI (nl D)) = _
    unfold i_X2_numberBy_6
    rw [h.1, if_pos (by rw [nle (by omega) (by omega)]; omega)]
  · have := bigN; omega
theorem M_moved {S : St} {D : HD} (h : MH S D) (g : GH D) {s x : Nat} (hs : s < ns D) (hx : x < 2 ^ 30) (b : Bool) : f_X7_movedBy S (nI x) (nI s) b = some (nI (if b then bkn D s x else mvn D s x)) := by
  have h5 := g.1
  have hs5 := g.2.1
  have hm := mo_le g hs
  unfold f_X7_movedBy
  obtain ⟨f, hf⟩ : ∃ f : Nat → Nat, f = fun l => if b then (dg D x l + sh D l - stp D s l) % sh D l else (dg D x l + stp D s l) % sh D l := ⟨_, rfl⟩
  have hfe : enc D f (nl D) = if b then bkn D s x else mvn D s x := by
    subst hf
    cases b <;> rfl
  rw [← hfe, iter_to (fun i => (nI (x / wt D i), nI (wt D i), nI (enc D f i), nI i)) (nl D) (t := (nI (x / wt D (nl D)), nI (wt D (nl D)), nI (enc D f (nl D)), nI (nl D))) (by
    show _ = (nI (x / 1), nI 1, nI 0, nI 0)
    rw [Nat.div_one]
    rfl), bd_s]
  · intro i hi
    have hsh := g.2.2.1 i hi
    have h1 := dg_lt g hi x
    have h2 := stp_lt g (s := s) hi
    have hdv : x / wt D i ≤ x := Nat.div_le_self _ _
    have hb := (g.2.2.2 s hs).2.2.2
    have key : ∀ y0 : Nat, y0 = stp D s i → j_X7_movedBy_76 S (nI s) b (nI (x / wt D i / sh D i)) (nI (wt D i)) (nI (enc D f i)) (nI i) (nI (x / wt D i % sh D i)) (nI y0) = some (.inl (nI (x / wt D (i + 1)), nI (wt D (i + 1)), nI (enc D f (i + 1)), nI (i + 1))) := by
      intro y0 hy
      subst hy
      unfold j_X7_movedBy_76 j_X7_movedBy_103
      simp only [ck_t (okn (j := i) (n := 5) (by omega) (by decide)), ixn (j := i) (by omega), h.2.2.1 i hi, ck_t (show ¬ nI (sh D i) = 0 from nI_ne0 (by omega) (by omega)), pk_mul, nadd1, nI_add]
      have e1 : x / wt D (i + 1) = x / wt D i / sh D i := by rw [Nat.div_div_eq_div_mul]; rfl
      have e2 : enc D f (i + 1) = enc D f i + f i * wt D i := rfl
      have h1' : x / wt D i % sh D i < sh D i := h1
      rw [e1, e2]
      cases b with
      | true =>
        rw [if_neg (by decide), pk_sub (by omega), show rem32 (nI (x / wt D i % sh D i + sh D i - stp D s i)) (nI (sh D i)) = nI ((x / wt D i % sh D i + sh D i - stp D s i) % sh D i) from pk_rem (by omega) (by omega) (by omega), pk_mul, nI_add]
        subst hf
        rfl
      | false =>
        rw [if_pos rfl, show rem32 (nI (x / wt D i % sh D i + stp D s i)) (nI (sh D i)) = nI ((x / wt D i % sh D i + stp D s i) % sh D i) from pk_rem (by omega) (by omega) (by omega), pk_mul, nI_add]
        subst hf
        rfl
    show i_X7_movedBy_12 S (nI s) b (nI (x / wt D i)) (nI (wt D i)) (nI (enc D f i)) (nI i) = _
    unfold i_X7_movedBy_12
    simp only [ck_t (okn (j := i) (n := 5) (by omega) (by decide)), ck_t (okn (j := s) (n := 5) (by omega) (by decide)), ixn (j := i) (by omega), ixn (j := s) (by omega), h.1, if_neg (show ¬ nI (nl D) ≤ nI i by rw [nle (by omega) (by omega)]; omega), h.2.2.1 i hi, ck_t (show ¬ nI (sh D i) = 0 from nI_ne0 (by omega) (by omega)), (h.2.2.2 s hs).2.2, M_isOf hb (show i < 5 by omega), M_moves h g hs, bd_s, show rem32 (nI (x / wt D i)) (nI (sh D i)) = nI (x / wt D i % sh D i) from pk_rem (by omega) (by omega) (by omega), pk_div (a := x / wt D i) (d := sh D i) (by omega) (by omega) (by omega), show rem32 (nI (mo D s)) (nI (sh D i)) = nI (mo D s % sh D i) from pk_rem (by omega) (by omega) (by omega)]
    by_cases hw : (wr D s).testBit i = true
    · rw [hw, if_neg (by decide)]
      exact key _ (by unfold stp; rw [if_pos hw])
    · have hw' := bf hw
      rw [hw', if_pos rfl]
      exact key 0 (by unfold stp; rw [if_neg hw])
  · show i_X7_movedBy_12 S (nI s) b (nI (x / wt D (nl D))) (nI (wt D (nl D))) (nI (enc D f (nl D))) (nI (nl D)) = _
    unfold i_X7_movedBy_12
    rw [h.1, if_pos (by rw [nle (by omega) (by omega)]; omega)]
  · have := bigN; omega
theorem M_many {S : St} {D : HD} (h : MH S D) (g : GH D) : f_X7_manyOf S = some (nI (tot D)) := by
  have h5 := g.1
  unfold f_X7_manyOf
  rw [iter_to (fun i => (nI (wt D i), nI i)) (nl D) (t := (nI (tot D), nI (nl D))) (by rfl), bd_s]
  · intro i hi
    show i_X7_manyOf_4 S (nI (wt D i)) (nI i) = _
    unfold i_X7_manyOf_4
    rw [h.1, if_neg (by rw [nle (by omega) (by omega)]; omega), ck_t (okn (by omega) (by decide)), ixn (by omega), h.2.2.1 i hi, pk_mul, nadd1]
    rfl
  · show i_X7_manyOf_4 S (nI (wt D (nl D))) (nI (nl D)) = _
    unfold i_X7_manyOf_4
    rw [h.1, if_pos (by rw [nle (by omega) (by omega)]; omega)]
    rfl
  · have := bigN; omega
