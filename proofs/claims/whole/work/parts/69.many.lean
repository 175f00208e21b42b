/-! how many there are to be come to: one switch after the other -/
def Vl (L : Nat → Nat) (c x : Nat) : Prop := ∃ j, j < c ∧ L j = x
/-- all that the first n switches of a set come to, each once -/
def GI (D : HD) (set n : Nat) (L : Nat → Nat) (c : Nat) : Prop := 1 ≤ c ∧ (∀ j, j < c → L j < tot D) ∧ (∀ i j, i < j → j < c → L i ≠ L j) ∧ Vl L c 0 ∧ (∀ x y, Vl L c x → Vl L c y → Vl L c (addn D x y)) ∧ (∀ s, s < n → set.testBit s = true → Vl L c (gs D s)) ∧ ∀ Q : Nat → Prop, Q 0 → (∀ x s, Q x → s < n → set.testBit s = true → Q (mvn D s x)) → ∀ x, Vl L c x → Q x
/-- on the way with one more: H is what was there ahead -/
def WI (D : HD) (s : Nat) (H : Nat → Prop) (base : Nat) (L : Nat → Nat) (c pre : Nat) : Prop := 1 ≤ base ∧ base ≤ c ∧ (∀ j, j < c → L j < tot D) ∧ (∀ i j, i < j → j < c → L i ≠ L j) ∧ (∀ x h, Vl L c x → H h → Vl L c (addn D x h)) ∧ (∀ j, c - base ≤ j → j < c → ∃ h, H h ∧ addn D (L j) h = pre) ∧ (∀ j, j < c - base → Vl L c (mvn D s (L j))) ∧ (∀ x, H x → Vl L c x) ∧ ∀ Q : Nat → Prop, (∀ x, H x → Q x) → (∀ x, Q x → Q (mvn D s x)) → ∀ x, Vl L c x → Q x
def lx (D : HD) (s base c : Nat) (L : Nat → Nat) : Nat → Nat := fun j => if j < c then L j else mvn D s (L (j - base))
theorem lx_lo {D : HD} {s base c j : Nat} {L : Nat → Nat} (h : j < c) : lx D s base c L j = L j := if_pos h
theorem lx_hi {D : HD} {s base c j : Nat} {L : Nat → Nat} (h : ¬ j < c) : lx D s base c L j = mvn D s (L (j - base)) := if_neg h
theorem mv_addn {D : HD} (g : GH D) (s y h : Nat) : addn D (mvn D s y) h = mvn D s (addn D y h) := by
  rw [mvn_eq g, mvn_eq g, addn_assoc g, addn_comm D (gs D s) h, ← addn_assoc g]
theorem mv_inj {D : HD} (g : GH D) {s x y : Nat} (hx : x < tot D) (hy : y < tot D) (h : mvn D s x = mvn D s y) : x = y := by
  rw [← bk_mv g s hx, h, bk_mv g s hy]
theorem WI.next {D : HD} (g : GH D) {s : Nat} {H : Nat → Prop} {base c pre : Nat} {L : Nat → Nat} (h : WI D s H base L c pre) (hn : ¬ Vl L c (mvn D s pre)) : WI D s H base (lx D s base c L) (c + base) (mvn D s pre) := by
  obtain ⟨h0, h1, h2, h3, h4, h5, h6, h7, h8⟩ := h
  have sub : ∀ x, Vl L c x → Vl (lx D s base c L) (c + base) x := fun x ⟨j, hj, e⟩ => ⟨j, by omega, by rw [lx_lo hj]; exact e⟩
  have nx : ∀ x, Vl L c x → Vl (lx D s base c L) (c + base) (mvn D s x) := by
    rintro x ⟨j, hj, e⟩
    by_cases q : j < c - base
    · rw [← e]; exact sub _ (h6 j q)
    · exact ⟨j + base, by omega, by rw [lx_hi (by omega), show j + base - base = j by omega, e]⟩
  refine ⟨h0, by omega, fun j hj => ?_, fun i j hij hj => ?_, fun x y hx hy => ?_, fun j hj1 hj2 => ?_, fun j hj => ?_, fun x hx => sub x (h7 x hx), fun Q q1 q2 x hx => ?_⟩
  · by_cases q : j < c
    · rw [lx_lo q]; exact h2 j q
    · rw [lx_hi q]; exact mvn_lt g _ _
  · by_cases q : j < c
    · rw [lx_lo q, lx_lo (show i < c by omega)]; exact h3 i j hij q
    · rw [lx_hi q]
      by_cases r : i < c
      · rw [lx_lo r]
        intro e
        obtain ⟨y, y1, y2⟩ := h5 (j - base) (by omega) (by omega)
        have := h4 (L i) y ⟨i, r, rfl⟩ y1
        rw [e, mv_addn g, y2] at this
        exact hn this
      · rw [lx_hi r]
        intro e
        exact h3 (i - base) (j - base) (by omega) (by omega) (mv_inj g (h2 _ (by omega)) (h2 _ (by omega)) e)
  · obtain ⟨j, hj, e⟩ := hx
    by_cases q : j < c
    · rw [lx_lo q] at e
      exact sub _ (h4 x y ⟨j, q, e⟩ hy)
    · rw [lx_hi q] at e
      rw [← e, mv_addn g]
      exact nx _ (h4 _ y ⟨j - base, by omega, rfl⟩ hy)
  · obtain ⟨y, y1, y2⟩ := h5 (j - base) (by omega) (by omega)
    exact ⟨y, y1, by rw [lx_hi (by omega), mv_addn g, y2]⟩
  · rw [lx_lo (show j < c by omega)]
    exact nx _ ⟨j, by omega, rfl⟩
  · obtain ⟨j, hj, e⟩ := hx
    by_cases q : j < c
    · rw [lx_lo q] at e
      exact h8 Q q1 q2 x ⟨j, q, e⟩
    · rw [lx_hi q] at e
      rw [← e]
      exact q2 _ (h8 Q q1 q2 _ ⟨j - base, by omega, rfl⟩)
theorem WI.done {D : HD} (g : GH D) {set n : Nat} {L0 L : Nat → Nat} {base c pre : Nat} (h : WI D n (Vl L0 base) base L c pre) (hG : GI D set n L0 base) (hb : set.testBit n = true) (hn : Vl L c (mvn D n pre)) : GI D set (n + 1) L c := by
  obtain ⟨h0, h1, h2, h3, h4, h5, h6, h7, h8⟩ := h
  obtain ⟨g1, g2, g3, g4, g5, g6, g7⟩ := hG
  have lt : ∀ x, Vl L c x → x < tot D := fun x ⟨j, hj, e⟩ => by rw [← e]; exact h2 j hj
  have cl : ∀ x, Vl L c x → Vl L c (mvn D n x) := by
    rintro x ⟨j, hj, e⟩
    by_cases q : j < c - base
    · rw [← e]; exact h6 j q
    · obtain ⟨y, y1, y2⟩ := h5 j (by omega) hj
      have k := neg_cl g (y := y) (Q := Vl L c) (fun z hz => h4 z y hz y1) hn (mvn_lt g _ _)
      rw [← y2, ← mv_addn g, addn_assoc g, addn_neg g, addn_zero g (mvn_lt g _ _), e] at k
      exact k
  have ad : ∀ y, Vl L c y → y < tot D ∧ ∀ x, Vl L c x → Vl L c (addn D x y) := by
    refine h8 _ (fun y hy => ⟨lt y (h7 y hy), fun x hx => h4 x y hx hy⟩) (fun y hy => ⟨mvn_lt g _ _, fun x hx => ?_⟩)
    rw [mvn_eq g, ← addn_assoc g, ← mvn_eq g]
    exact cl _ (hy.2 x hx)
  refine ⟨by omega, h2, h3, h7 0 g4, fun x y hx hy => (ad y hy).2 x hx, fun s hs hsb => ?_, fun Q q0 q1 x hx => ?_⟩
  · by_cases e : s = n
    · rw [e]; exact cl 0 (h7 0 g4)
    · exact h7 _ (g6 s (by omega) hsb)
  · exact h8 Q (g7 Q q0 (fun y s hy hs hsb => q1 y s hy (by omega) hsb)) (fun y hy => q1 y n hy (by omega) hb) x hx
theorem WI.init {D : HD} (g : GH D) {set n : Nat} {L : Nat → Nat} {base : Nat} (hG : GI D set n L base) : WI D n (Vl L base) base L base 0 := by
  obtain ⟨g1, g2, g3, g4, g5, g6, g7⟩ := hG
  have lt : ∀ x, Vl L base x → x < tot D := fun x ⟨j, hj, e⟩ => by rw [← e]; exact g2 j hj
  refine ⟨g1, Nat.le_refl _, g2, g3, g5, fun j _ hj => ?_, fun j hj => absurd hj (by omega), fun x hx => hx, fun Q q1 _ x hx => q1 x hx⟩
  have k := neg_cl g (y := L j) (Q := Vl L base) (fun z hz => g5 z _ hz ⟨j, hj, rfl⟩) g4 (tot_pos g)
  refine ⟨_, k, ?_⟩
  rw [addn_comm D 0, addn_zero g (negn_lt g _), addn_neg g]
theorem GI.skip {D : HD} {set n : Nat} {L : Nat → Nat} {c : Nat} (h : GI D set n L c) (hb : ¬ set.testBit n = true) : GI D set (n + 1) L c := by
  obtain ⟨g1, g2, g3, g4, g5, g6, g7⟩ := h
  refine ⟨g1, g2, g3, g4, g5, fun s hs hsb => ?_, fun Q q0 q1 => g7 Q q0 (fun x s hx hs hsb => q1 x s hx (by omega) hsb)⟩
  by_cases e : s = n
  · rw [e] at hsb; exact absurd hsb hb
  · exact g6 s (by omega) hsb
theorem enum_le {a b : Nat} {A B : Nat → Nat} (hA : ∀ i j, i < j → j < a → A i ≠ A j) (h : ∀ i, i < a → ∃ j, j < b ∧ B j = A i) : a ≤ b := by
  have : ∃ f : Nat → Nat, ∀ i, i < a → f i < b ∧ B (f i) = A i := ⟨fun i => if hi : i < a then Classical.choose (h i hi) else 0, fun i hi => by
    show (if hi : i < a then Classical.choose (h i hi) else 0) < b ∧ B (if hi : i < a then Classical.choose (h i hi) else 0) = A i
    rw [dif_pos hi]
    exact Classical.choose_spec (h i hi)⟩
  obtain ⟨f, hf⟩ := this
  exact fb_holes b a f (fun i hi => (hf i hi).1) (fun i j hij hj e => hA i j hij hj (by rw [← (hf i (by omega)).2, ← (hf j hj).2, e]))
theorem GI.count {D : HD} (g : GH D) {set : Nat} {L : Nat → Nat} {c : Nat} (h : GI D set (ns D) L c) : c = (BF D set).2.2 := by
  have hB := BF_BI g set
  obtain ⟨g1, g2, g3, g4, g5, g6, g7⟩ := h
  refine Nat.le_antisymm ?_ ?_
  · refine enum_le (B := (BF D set).2.1) g3 (fun i hi => ?_)
    exact hB.2.2.2.1 _ (g7 (fun x => (BF D set).1 x ≠ -9) (by rw [hB.2.2.2.2.1]; decide) (fun x s hx hs hb => BF_cl g hx hs hb) (L i) ⟨i, hi, rfl⟩)
  · refine enum_le (B := L) hB.2.2.1 (fun i hi => ?_)
    obtain ⟨d, d1, d2⟩ := hB.2.2.2.2.2.2 _ (hB.2.1 i hi).2
    have ht := tot_le g
    have hl := hB.le
    exact BF_min g (Vl L c) g4 (fun x s hx hs hb => by rw [mvn_eq g]; exact g5 x _ hx (g6 s hs hb)) d _ d2 (by omega)
/-! the reference's rows -/
def MVv (D : HD) (S : St) (L : Nat → Nat) (c : Nat) : Prop := (∀ j, j < c → S 14 j = nI (L j)) ∧ ∀ x, x < tot D → (S 13 x ≠ -9 ↔ Vl L c x)
theorem M_block {S : St} {D : HD} (h : MH S D) (g : GH D) {s base c : Nat} {L : Nat → Nat} (hs : s < ns D) (hb : base ≤ c) (hc : c + base ≤ 3125) (hL : ∀ j, j < c + base → lx D s base c L j < tot D) (hV : MVv D S L c) (x1 x6 : Int32) : ∃ t, iter (fun q : St × Int32 => i_X7_findMany_92 q.1 x1 (nI c) (nI s) (nI base) x6 q.2) BIG (S, (0 : Int32)) = some t ∧ MVv D t.1 (lx D s base c L) (c + base) ∧ ∀ a, a ≠ 13 → a ≠ 14 → t.1 a = S a := by
  have ht := tot_le g
  refine iter_rel (fun k (q : St × Int32) => q.2 = nI k ∧ MVv D q.1 (lx D s base c L) (c + k) ∧ ∀ a, a ≠ 13 → a ≠ 14 → q.1 a = S a) _ base ?_ ?_ _ ⟨rfl, ⟨fun j hj => by rw [lx_lo (by omega)]; exact hV.1 j (by omega), fun x hx => ?_⟩, fun _ _ _ => rfl⟩ (by have := bigT; omega)
  · intro k q hk hq
    obtain ⟨S1, x⟩ := q
    obtain ⟨e, hV1, hf⟩ := hq
    have e : x = nI k := e
    subst e
    have hV1 : MVv D S1 (lx D s base c L) (c + k) := hV1
    have hf : ∀ a, a ≠ 13 → a ≠ 14 → S1 a = S a := hf
    have hX : MH S1 D := h.fr (by rw [hf 0 (by decide) (by decide)]) (by rw [hf 0 (by decide) (by decide)]) (fun a ha => hf a (by omega) (by omega))
    have e14 : S1 14 (c - base + k) = nI (L (c - base + k)) := by rw [hV1.1 _ (by omega), lx_lo (by omega)]
    have hlt := hL (c - base + k) (by omega)
    rw [lx_lo (by omega)] at hlt
    have hm := mvn_lt g s (L (c - base + k))
    have el : lx D s base c L (c + k) = mvn D s (L (c - base + k)) := by rw [lx_hi (by omega), show c + k - base = c - base + k by omega]
    refine ⟨(up (up S1 14 (c + k) (nI (mvn D s (L (c - base + k))))) 13 (mvn D s (L (c - base + k))) (0 : Int32), nI (k + 1)), ?_, rfl, ⟨fun j hj => ?_, fun y hy => ?_⟩, fun a ha hb => ?_⟩
    · show i_X7_findMany_92 S1 x1 (nI c) (nI s) (nI base) x6 (nI k) = _
      unfold i_X7_findMany_92
      rw [if_neg (by rw [nle (by omega) (by omega)]; omega), pk_sub hb, nI_add, nI_add, ck_t (okn (by omega) (by decide)), ixn (j := c - base + k) (by omega), e14, M_moved hX g hs (by omega) false, bd_s, if_neg (show ¬ false = true by decide), ck_t (okn (by omega) (by decide)), ck_t (okn (by omega) (by decide)), ixn (j := c + k) (by omega), up_row, if_pos rfl, ck_t (okn (by omega) (by decide)), ixn (j := mvn D s (L (c - base + k))) (by omega), nadd1]
    · show up (up S1 14 (c + k) (nI (mvn D s (L (c - base + k))))) 13 (mvn D s (L (c - base + k))) (0 : Int32) 14 j = _
      rw [up_ne _ _ _ _ (by decide), up_row]
      by_cases q : j = c + k
      · rw [if_pos q, q, el]
      · rw [if_neg q]; exact hV1.1 j (by omega)
    · show up (up S1 14 (c + k) (nI (mvn D s (L (c - base + k))))) 13 (mvn D s (L (c - base + k))) (0 : Int32) 13 y ≠ -9 ↔ _
      rw [up_row, up_ne _ _ _ _ (by decide)]
      by_cases q : y = mvn D s (L (c - base + k))
      · rw [if_pos q]
        exact ⟨fun _ => ⟨c + k, by omega, by rw [el, q]⟩, fun _ => by decide⟩
      · rw [if_neg q, hV1.2 y hy]
        constructor
        · rintro ⟨j, j1, j2⟩
          exact ⟨j, by omega, j2⟩
        · rintro ⟨j, j1, j2⟩
          by_cases r : j = c + k
          · rw [r, el] at j2
            exact absurd j2.symm q
          · exact ⟨j, by omega, j2⟩
    · show up (up S1 14 (c + k) (nI (mvn D s (L (c - base + k))))) 13 (mvn D s (L (c - base + k))) (0 : Int32) a = S a
      rw [up_ne _ _ _ _ ha, up_ne _ _ _ _ hb]
      exact hf a ha hb
  · intro q hq
    obtain ⟨S1, x⟩ := q
    obtain ⟨e, hV1, hf⟩ := hq
    have e : x = nI base := e
    subst e
    refine ⟨(S1, nI base), ?_, hV1, hf⟩
    show i_X7_findMany_92 S1 x1 (nI c) (nI s) (nI base) x6 (nI base) = _
    unfold i_X7_findMany_92
    rw [if_pos (by rw [nle (by omega) (by omega)]; omega)]
  · rw [hV.2 x hx]
    constructor
    · rintro ⟨j, j1, j2⟩
      exact ⟨j, by omega, by rw [lx_lo j1]; exact j2⟩
    · rintro ⟨j, j1, j2⟩
      exact ⟨j, by omega, by rw [lx_lo (by omega)] at j2; exact j2⟩
theorem M_while {S : St} {D : HD} (h : MH S D) (g : GH D) {set s base : Nat} {L : Nat → Nat} (hs : s < ns D) (hG : GI D set s L base) (hb : set.testBit s = true) (hV : MVv D S L base) (x1 : Int32) : ∃ t, iter (fun q : St × Int32 × Int32 => i_X7_findMany_77 q.1 x1 (nI s) (nI base) q.2.1 q.2.2) BIG (S, nI base, nI (mvn D s 0)) = some t ∧ ∃ L' c, t.2.1 = nI c ∧ GI D set (s + 1) L' c ∧ MVv D t.1 L' c ∧ ∀ a, a ≠ 13 → a ≠ 14 → t.1 a = S a := by
  have ht := tot_le g
  refine iter_wh (fun q : St × Int32 × Int32 => ∃ L' c pre, q.2.1 = nI c ∧ q.2.2 = nI (mvn D s pre) ∧ WI D s (Vl L base) base L' c pre ∧ MVv D q.1 L' c ∧ ∀ a, a ≠ 13 → a ≠ 14 → q.1 a = S a) _ (fun q => tot D - ix q.2.1) ?_ _ ⟨L, base, 0, rfl, rfl, WI.init g hG, hV, fun _ _ _ => rfl⟩ (by
    have := bigT
    show tot D - _ < BIG
    omega)
  intro q hq
  obtain ⟨S1, y, x⟩ := q
  obtain ⟨L', c, pre, e1, e2, hW, hV1, hf⟩ := hq
  have e1 : y = nI c := e1
  have e2 : x = nI (mvn D s pre) := e2
  subst e1
  subst e2
  have hV1 : MVv D S1 L' c := hV1
  have hf : ∀ a, a ≠ 13 → a ≠ 14 → S1 a = S a := hf
  have hm := mvn_lt g s pre
  have hct : c ≤ tot D := fb_holes (tot D) c L' hW.2.2.1 hW.2.2.2.1
  by_cases hv : Vl L' c (mvn D s pre)
  · right
    refine ⟨(S1, nI c, nI (mvn D s pre)), ?_, L', c, rfl, hW.done g hG hb hv, hV1, hf⟩
    show i_X7_findMany_77 S1 x1 (nI s) (nI base) (nI c) (nI (mvn D s pre)) = _
    unfold i_X7_findMany_77
    rw [ck_t (okn (by omega) (by decide)), ixn (by omega), if_neg ((hV1.2 _ hm).mpr hv)]
  · left
    have hW2 := hW.next g hv
    have hX : MH S1 D := h.fr (by rw [hf 0 (by decide) (by decide)]) (by rw [hf 0 (by decide) (by decide)]) (fun a ha => hf a (by omega) (by omega))
    have hct2 : c + base ≤ tot D := fb_holes (tot D) (c + base) (lx D s base c L') hW2.2.2.1 hW2.2.2.2.1
    have h0 := hW.1
    obtain ⟨t, t1, t2, t3⟩ := M_block hX g hs hW.2.1 (by omega) hW2.2.2.1 hV1 x1 (nI (mvn D s pre))
    have hX2 : MH t.1 D := hX.fr (by rw [t3 0 (by decide) (by decide)]) (by rw [t3 0 (by decide) (by decide)]) (fun a ha => t3 a (by omega) (by omega))
    refine ⟨(t.1, nI (c + base), nI (mvn D s (mvn D s pre))), ?_, ⟨lx D s base c L', c + base, mvn D s pre, rfl, rfl, hW2, t2, fun a ha hb => ?_⟩, ?_⟩
    · show i_X7_findMany_77 S1 x1 (nI s) (nI base) (nI c) (nI (mvn D s pre)) = _
      unfold i_X7_findMany_77
      rw [ck_t (okn (by omega) (by decide)), ixn (by omega), if_pos (Classical.byContradiction (fun q => hv ((hV1.2 _ hm).mp q))), t1, bd_s, M_moved hX2 g hs (by omega) false, bd_s, if_neg (show ¬ false = true by decide), nI_add]
    · show t.1 a = S a
      rw [t3 a ha hb]
      exact hf a ha hb
    · show tot D - ix (nI (c + base)) < tot D - ix (nI c)
      rw [ixn (by omega), ixn (by omega)]
      omega
theorem M_findMany {S : St} {D : HD} (h : MH S D) (g : GH D) {set : Nat} {w : Int32} (hw : ∀ s, s < ns D → (set.testBit s = true ↔ ¬ nI s = w)) : ∃ S', f_X7_findMany S w = some (nI (BF D set).2.2, S') ∧ ∀ a, a ≠ 13 → a ≠ 14 → S' a = S a := by
  have ht := tot_le g
  have htp := tot_pos g
  have hs5 := g.2.1
  unfold f_X7_findMany
  rw [M_many h g, bd_s, iter_to (fun i => (fill S 13 i (fun _ => (-9 : Int32)), nI i)) (tot D) (t := (fill S 13 (tot D) (fun _ => (-9 : Int32)), nI (tot D))) (by rw [fill_0]; rfl) (by
      intro i hi
      show i_X7_findMany_7 (fill S 13 i (fun _ => (-9 : Int32))) w (nI (tot D)) (nI i) = _
      unfold i_X7_findMany_7
      rw [if_neg (by rw [nle (by omega) (by omega)]; omega), ck_t (okn (by omega) (by decide)), ixn (by omega), fill_up' rfl, nadd1]) (by
      show i_X7_findMany_7 (fill S 13 (tot D) (fun _ => (-9 : Int32))) w (nI (tot D)) (nI (tot D)) = _
      unfold i_X7_findMany_7
      rw [if_pos (by rw [nle (by omega) (by omega)]; omega)]) (by have := bigT; omega), bd_s, ck_t (show okx 0 3125 from okn (j := 0) (by decide) (by decide)), ck_t (show okx 0 3125 from okn (j := 0) (by decide) (by decide)), show ix (0 : Int32) = 0 from ixn (j := 0) (by decide)]
  have f0 : ∀ a, a ≠ 13 → a ≠ 14 → (up (up (fill S 13 (tot D) (fun _ => (-9 : Int32))) 13 0 (0 : Int32)) 14 0 (0 : Int32)) a = S a := fun a ha hb => by rw [up_ne _ _ _ _ hb, up_ne _ _ _ _ ha, fill_ne _ _ _ _ ha]
  have hV0 : MVv D (up (up (fill S 13 (tot D) (fun _ => (-9 : Int32))) 13 0 (0 : Int32)) 14 0 (0 : Int32)) (fun _ => 0) 1 := by
    refine ⟨fun j hj => ?_, fun x hx => ?_⟩
    · rw [up_row, if_pos (by omega)]
      rfl
    · rw [up_ne _ _ _ _ (by decide), up_row, fill_lo hx]
      by_cases e : x = 0
      · rw [if_pos e]
        exact ⟨fun _ => ⟨0, by decide, e.symm⟩, fun _ => by decide⟩
      · rw [if_neg e]
        exact ⟨fun q => absurd rfl q, fun ⟨j, _, q⟩ => absurd q.symm e⟩
  have hG0 : GI D set 0 (fun _ => 0) 1 := by
    have v0 : Vl (fun _ => 0) 1 0 := ⟨0, by decide, rfl⟩
    refine ⟨Nat.le_refl _, fun _ _ => htp, fun i j hij hj => absurd hij (by omega), v0, ?_, fun s hs => absurd hs (Nat.not_lt_zero s), fun Q q0 _ x hx => ?_⟩
    · rintro x y ⟨i, _, hi⟩ ⟨j, _, hj⟩
      rw [← hi, ← hj, addn_zero g htp]
      exact v0
    · obtain ⟨j, _, hj⟩ := hx
      rw [← hj]
      exact q0
  show ∃ S', bd (iter (fun q : St × Int32 × Int32 => i_X7_findMany_45 q.1 w q.2.1 q.2.2) BIG (up (up (fill S 13 (tot D) (fun _ => (-9 : Int32))) 13 0 (0 : Int32)) 14 0 (0 : Int32), (1 : Int32), (0 : Int32))) (fun q45 => some (q45.2.1, q45.1)) = some (nI (BF D set).2.2, S') ∧ _
  generalize up (up (fill S 13 (tot D) (fun _ => (-9 : Int32))) 13 0 (0 : Int32)) 14 0 (0 : Int32) = S0 at f0 hV0 ⊢
  obtain ⟨t, t1, t2, t3⟩ := iter_rel (it := fun q : St × Int32 × Int32 => i_X7_findMany_45 q.1 w q.2.1 q.2.2) (fun n q => q.2.2 = nI n ∧ (∃ L c, q.2.1 = nI c ∧ GI D set n L c ∧ MVv D q.1 L c) ∧ ∀ a, a ≠ 13 → a ≠ 14 → q.1 a = S a) (fun t => t.2.1 = nI (BF D set).2.2 ∧ ∀ a, a ≠ 13 → a ≠ 14 → t.1 a = S a) (ns D) (by
    intro n q hn hq
    obtain ⟨S1, y, x⟩ := q
    obtain ⟨e, ⟨L, c, e2, hG, hV⟩, hf⟩ := hq
    have e : x = nI n := e
    have e2 : y = nI c := e2
    subst e
    subst e2
    have hV : MVv D S1 L c := hV
    have hf : ∀ a, a ≠ 13 → a ≠ 14 → S1 a = S a := hf
    have hX : MH S1 D := h.fr (by rw [hf 0 (by decide) (by decide)]) (by rw [hf 0 (by decide) (by decide)]) (fun a ha => hf a (by omega) (by omega))
    by_cases hwn : nI n = w
    · refine ⟨(S1, nI c, nI (n + 1)), ?_, rfl, ⟨L, c, rfl, hG.skip (fun q => (hw n hn).mp q hwn), hV⟩, hf⟩
      show i_X7_findMany_45 S1 w (nI c) (nI n) = _
      unfold i_X7_findMany_45
      rw [hX.2.1, if_neg (by rw [nle (by omega) (by omega)]; omega), if_pos hwn, iter_to (fun i => (S1, nI c, (0 : Int32))) 0 (t := (S1, nI c, (0 : Int32))) (by rfl) (fun i hi => absurd hi (Nat.not_lt_zero i)) (by
        show i_X7_findMany_77 S1 w (nI n) (nI c) (nI c) (0 : Int32) = _
        unfold i_X7_findMany_77
        rw [ck_t (show okx 0 3125 from okn (j := 0) (by decide) (by decide)), show ix (0 : Int32) = 0 from ixn (j := 0) (by decide), if_neg ((hV.2 0 htp).mpr hG.2.2.2.1)]) (by decide), bd_s, nadd1]
    · obtain ⟨t, t1, L', c', t2, t3, t4, t5⟩ := M_while hX g hn hG ((hw n hn).mpr hwn) hV w
      refine ⟨(t.1, t.2.1, nI (n + 1)), ?_, rfl, ⟨L', c', t2, t3, t4⟩, fun a ha hb => ?_⟩
      · show i_X7_findMany_45 S1 w (nI c) (nI n) = _
        unfold i_X7_findMany_45
        rw [hX.2.1, if_neg (by rw [nle (by omega) (by omega)]; omega), if_neg hwn, show f_X7_movedBy S1 (0 : Int32) (nI n) false = _ from M_moved hX g hn (x := 0) (by decide) false, bd_s, if_neg (show ¬ false = true by decide), t1, bd_s, nadd1]
      · show t.1 a = S a
        rw [t5 a ha hb]
        exact hf a ha hb) (by
    intro q hq
    obtain ⟨S1, y, x⟩ := q
    obtain ⟨e, ⟨L, c, e2, hG, hV⟩, hf⟩ := hq
    have e : x = nI (ns D) := e
    have e2 : y = nI c := e2
    subst e
    subst e2
    have hf : ∀ a, a ≠ 13 → a ≠ 14 → S1 a = S a := hf
    refine ⟨(S1, nI c, nI (ns D)), ?_, by rw [← hG.count g], hf⟩
    show i_X7_findMany_45 S1 w (nI c) (nI (ns D)) = _
    unfold i_X7_findMany_45
    rw [hf 0 (by decide) (by decide), h.2.1, if_pos (by rw [nle (by omega) (by omega)]; omega)]) (S0, (1 : Int32), (0 : Int32)) ⟨rfl, ⟨fun _ => 0, 1, rfl, hG0, hV0⟩, f0⟩ (by have := bigN; omega)
  rw [t1, bd_s, t2]
  exact ⟨_, rfl, t3⟩
