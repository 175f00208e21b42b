theorem dsq_pre {D : HD} {nw pa pb : Nat → Nat} {c : Nat} : ∀ (m : Nat) {A : Rw}, dsq D nw pa pb (c + m) = some A → ∃ B, dsq D nw pa pb c = some B
  | 0, A, h => ⟨A, h⟩
  | m + 1, A, h => by
    have h' : dsq D nw pa pb (c + m + 1) = some A := h
    cases hd : dsq D nw pa pb (c + m) with
    | none => rw [dsq, hd] at h'; cases h'
    | some B => exact dsq_pre m hd
theorem dsq_ok {D : HD} (g : GH D) {nw pa pb : Nat → Nat} (h0 : rok D nw) : ∀ (c : Nat) {A : Rw}, dsq D nw pa pb c = some A → rok D A.1
  | 0, A, h => by cases h; exact h0
  | c + 1, A, h => by
    cases hd : dsq D nw pa pb c with
    | none => rw [dsq, hd] at h; cases h
    | some B =>
      rw [dsq, hd] at h
      exact dst_ok g h (dsq_ok g h0 c hd)
theorem dst_dark {D : HD} {a b : Nat} {A A' : Rw} (h : dst D a b A = some A') : A'.2.2 = A.2.2 + dv D A'.1 := by
  unfold dst at h
  by_cases h1 : b < 10
  · rw [if_pos h1] at h; cases h; rfl
  · rw [if_neg h1] at h
    by_cases h2 : b - 10 < nl D ∧ a < sh D (b - 10)
    · rw [if_pos h2] at h; cases h; rfl
    · rw [if_neg h2] at h; cases h
/-- a pair that isn't refused -/
def pok (D : HD) (a b : Nat) : Prop := b ≤ 14 ∧ (b < 10 → a < ns D) ∧ (10 ≤ b → a ≤ 4)
theorem X_go {X : St} {D : HD} (hx : XH X D) (g : GH D) {nw : Nat → Nat} (hnw : ∀ l, l < nl D → X 23 l = nI (nw l)) (hrk : rok D nw) {k z i n : Nat} (hk : k < 4) (hz : z ≤ 60) (ez : X (8 + k) 2 = nI z) (hin : i + 2 * n ≤ z) {pa pb : Nat → Nat} (hp : ∀ c, c < n → X (12 + k) (i + 2 * c) = nI (pa c) ∧ X (12 + k) (i + 2 * c + 1) = nI (pb c) ∧ pok D (pa c) (pb c)) :
    (∀ A, dsq D nw pa pb n = some A → ∃ S, f_X0_goThrough X (8 + k) (nI i) (nI n) = some S ∧ PX D X A S) ∧ (∀ w A, w < n → dsq D nw pa pb w = some A → dsq D nw pa pb (w + 1) = none → ∃ S, f_X0_goThrough X (8 + k) (nI i) (nI n) = some (up S 5 1 (nI w)) ∧ PX D X A S) := by
  have hn5 := g.1
  have hsh : shX (8 + k) := ⟨by omega, by omega⟩
  obtain ⟨S1, hS1⟩ : ∃ S1 : St, S1 = up (up (up (va_up X 36 (va_cpy (X 23) (X 36) 0 0 5)) 5 1 (-9)) 5 2 0) 5 3 0 := ⟨_, rfl⟩
  have start : PX D X (nw, 0, 0) S1 := by
    subst hS1
    refine ⟨fun q q1 q2 => ?_, fun l hl => ?_, ?_, ?_, ?_⟩
    · rw [up_ne _ _ _ _ q1, up_ne _ _ _ _ q1, up_ne _ _ _ _ q1]
      unfold va_up
      rw [if_neg q2]
    · rw [up_ne _ _ _ _ (by decide), up_ne _ _ _ _ (by decide), up_ne _ _ _ _ (by decide)]
      unfold va_up va_cpy
      rw [if_pos rfl, if_pos (by omega), Nat.zero_add, Nat.sub_zero]
      exact hnw l hl
    · rw [up_ap, if_pos rfl, if_neg (by decide), up_ap, if_pos rfl, if_neg (by decide), up_ap, if_pos rfl, if_pos rfl]
    · rw [up_ap, if_pos rfl, if_neg (by decide), up_ap, if_pos rfl, if_pos rfl]
    · rw [up_ap, if_pos rfl, if_pos rfl]
  have body : ∀ c A S, c < n → rok D A.1 → PX D X A S → (∀ A', dst D (pa c) (pb c) A = some A' → ∃ S', i_X0_goThrough_33 S (8 + k) (nI i) (nI n) (nI c) = some (.inl (S', nI (c + 1))) ∧ PX D X A' S') ∧ (dst D (pa c) (pb c) A = none → i_X0_goThrough_33 S (8 + k) (nI i) (nI n) (nI c) = some (.inr (.inr (up S 5 1 (nI c))))) := by
    intro c A S hc hA hS
    obtain ⟨p1, p2, p3⟩ := hp c hc
    obtain ⟨hh1, hh2⟩ := X_happens hx g hA hS p3.1 p3.2.1 p3.2.2
    have ez' : S (8 + k) 2 = nI z := by rw [hS.1 _ (by omega) (by omega)]; exact ez
    have a1 : f_X4_at S (8 + k) (nI (i + 2 * c)) = some (nI (pa c)) := by rw [X_at hsh ez' hz (by omega), show 8 + k + 4 = 12 + k by omega, hS.1 _ (by omega) (by omega), p1]
    have a2 : f_X4_at S (8 + k) (nI (i + 2 * c + 1)) = some (nI (pb c)) := by rw [X_at hsh ez' hz (by omega), show 8 + k + 4 = 12 + k by omega, hS.1 _ (by omega) (by omega), p2]
    unfold i_X0_goThrough_33
    rw [if_neg (by rw [nle (by omega) (by omega)]; omega), show nI i + (2 : Int32) * nI c = nI (i + 2 * c) by rw [show (2 : Int32) * nI c = nI (2 * c) from pk_mul 2 c, nI_add], a1, bd_s, nadd1, a2, bd_s]
    refine ⟨fun A' hA' => ?_, fun hA' => ?_⟩
    · obtain ⟨S', e1, e2⟩ := hh1 A' hA'
      have hok := dst_ok g hA' hA
      have hx' : XH S' D := hx.fr (fun q hq => e2.1 q (by omega) (by omega))
      have hdk := dk_le (D := D) A'.1
      have hdd := dst_dark hA'
      rw [e1, bd_s]
      show ∃ S'', (if true = true then _ else _) = _ ∧ _
      rw [if_pos rfl, X_dark hx' g (k := 36) ⟨by decide, by decide⟩ (by decide) e2.2.1 hok, bd_s]
      simp only [hx'.1, nadd1]
      by_cases e : dk D A'.1 = nl D
      · rw [if_pos (by rw [e])]
        refine ⟨_, rfl, fun q q1 q2 => by rw [up_ne _ _ _ _ q1]; exact e2.1 q q1 q2, fun l hl => by rw [up_ne _ _ _ _ (by decide)]; exact e2.2.1 l hl, by rw [up_ap, if_pos rfl, if_neg (by decide)]; exact e2.2.2.1, by rw [up_ap, if_pos rfl, if_neg (by decide)]; exact e2.2.2.2.1, ?_⟩
        rw [up_ap, if_pos rfl, if_pos rfl, e2.2.2.2.2, hdd]
        unfold dv
        rw [if_pos e]
      · rw [if_neg (show ¬ nI (dk D A'.1) = nI (nl D) by rw [neq (by omega) (by omega)]; exact e)]
        refine ⟨_, rfl, e2.1, e2.2.1, e2.2.2.1, e2.2.2.2.1, ?_⟩
        rw [e2.2.2.2.2, hdd]
        unfold dv
        rw [if_neg e, add0]
    · rw [hh2 hA', bd_s]
      rfl
  have fin : ∀ S, i_X0_goThrough_33 S (8 + k) (nI i) (nI n) (nI n) = some (.inr (.inl (S, nI n))) := fun S => by
    unfold i_X0_goThrough_33
    rw [if_pos (by rw [nle (by omega) (by omega)]; omega)]
  unfold f_X0_goThrough
  rw [ck_t hsh, ck_t (by decide), show ix (0 : Int32) = 0 from rfl, show ix (5 : Int32) = 5 from rfl, ← hS1]
  refine ⟨fun A hA => ?_, fun w A hw hA hN => ?_⟩
  · obtain ⟨t, ht, S, rfl, hS⟩ := iter_rel (it := fun q => i_X0_goThrough_33 q.1 (8 + k) (nI i) (nI n) q.2) (fun c q => q.2 = nI c ∧ ∃ B, dsq D nw pa pb c = some B ∧ PX D X B q.1) (fun t => ∃ S, t = .inl (S, nI n) ∧ PX D X A S) n (by
      rintro c ⟨S, x⟩ hc ⟨rfl, B, hB, hPB⟩
      obtain ⟨B', hB'⟩ := dsq_pre (c := c + 1) (n - (c + 1)) (A := A) (by rw [show c + 1 + (n - (c + 1)) = n by omega]; exact hA)
      have hd : dst D (pa c) (pb c) B = some B' := by rw [dsq, hB] at hB'; exact hB'
      obtain ⟨S', e1, e2⟩ := (body c B S hc (dsq_ok g hrk c hB) hPB).1 B' hd
      exact ⟨(S', nI (c + 1)), e1, rfl, B', hB', e2⟩) (by
      rintro ⟨S, x⟩ ⟨rfl, B, hB, hPB⟩
      rw [hA] at hB
      cases hB
      exact ⟨_, fin S, S, rfl, hPB⟩) (S1, (0 : Int32)) ⟨rfl, _, rfl, start⟩ (by have := bigN; omega)
    rw [ht, bd_s, sm_i]
    exact ⟨S, rfl, hS⟩
  · obtain ⟨t, ht, S, rfl, hS⟩ := iter_rel (it := fun q => i_X0_goThrough_33 q.1 (8 + k) (nI i) (nI n) q.2) (fun c q => q.2 = nI c ∧ ∃ B, dsq D nw pa pb c = some B ∧ PX D X B q.1) (fun t => ∃ S, t = .inr (up S 5 1 (nI w)) ∧ PX D X A S) w (by
      rintro c ⟨S, x⟩ hc ⟨rfl, B, hB, hPB⟩
      obtain ⟨B', hB'⟩ := dsq_pre (c := c + 1) (w - (c + 1)) (A := A) (by rw [show c + 1 + (w - (c + 1)) = w by omega]; exact hA)
      have hd : dst D (pa c) (pb c) B = some B' := by rw [dsq, hB] at hB'; exact hB'
      obtain ⟨S', e1, e2⟩ := (body c B S (by omega) (dsq_ok g hrk c hB) hPB).1 B' hd
      exact ⟨(S', nI (c + 1)), e1, rfl, B', hB', e2⟩) (by
      rintro ⟨S, x⟩ ⟨rfl, B, hB, hPB⟩
      rw [hA] at hB
      cases hB
      have hd : dst D (pa w) (pb w) A = none := by rw [dsq, hA] at hN; exact hN
      exact ⟨_, (body w A S hw (dsq_ok g hrk w hA) hPB).2 hd, S, rfl, hPB⟩) (S1, (0 : Int32)) ⟨rfl, _, rfl, start⟩ (by have := bigN; omega)
    rw [ht, bd_s, sm_o]
    exact ⟨S, rfl, hS⟩
theorem M_go {M : St} {D : HD} (hm : MH M D) (g : GH D) {nw : Nat → Nat} (hnw : ∀ l, l < nl D → M 5 l = nI (nw l)) (hrk : rok D nw) {f n : Nat} (hf : f + 2 * n ≤ 240) (hn : n ≤ 20) {pa pb : Nat → Nat} (hp : ∀ c, c < n → M 3 (f + 2 * c) = nI (pa c) ∧ M 3 (f + 2 * c + 1) = nI (pb c) ∧ pok D (pa c) (pb c)) :
    (∀ A, dsq D nw pa pb n = some A → ∃ S, f_X7_goDay M (nI f) (nI n) = some (-9, S) ∧ PM D M A S) ∧ (∀ w A, w < n → dsq D nw pa pb w = some A → dsq D nw pa pb (w + 1) = none → ∃ S, f_X7_goDay M (nI f) (nI n) = some (nI w, S) ∧ PM D M A S) := by
  have hn5 := g.1
  obtain ⟨S1, hS1⟩ : ∃ S1 : St, S1 = up (up M 0 20 0) 0 21 0 := ⟨_, rfl⟩
  have start : PM D M (nw, 0, 0) S1 := by
    subst hS1
    refine ⟨fun q q1 q2 => ?_, fun q q1 q2 => ?_, fun l hl => ?_, ?_, ?_⟩
    · rw [up_ne _ _ _ _ q1, up_ne _ _ _ _ q1]
    · rw [up_ap, if_pos rfl, if_neg q2, up_ap, if_pos rfl, if_neg q1]
    · rw [up_ne _ _ _ _ (by decide), up_ne _ _ _ _ (by decide)]
      exact hnw l hl
    · rw [up_ap, if_pos rfl, if_neg (by decide), up_ap, if_pos rfl, if_pos rfl]
    · rw [up_ap, if_pos rfl, if_pos rfl]
  have body : ∀ c A S, c < n → rok D A.1 → PM D M A S → (∀ A', dst D (pa c) (pb c) A = some A' → ∃ S', i_X7_goDay_12 S (nI f) (nI n) (nI c) = some (.inl (S', nI (c + 1))) ∧ PM D M A' S') ∧ (dst D (pa c) (pb c) A = none → i_X7_goDay_12 S (nI f) (nI n) (nI c) = some (.inr (.inr (nI c, S)))) := by
    intro c A S hc hA hS
    obtain ⟨p1, p2, p3⟩ := hp c hc
    obtain ⟨hh1, hh2⟩ := M_does hm g hA hS p3.1 p3.2.1 p3.2.2
    unfold i_X7_goDay_12
    rw [if_neg (by rw [nle (by omega) (by omega)]; omega), show nI f + (2 : Int32) * nI c = nI (f + 2 * c) by rw [show (2 : Int32) * nI c = nI (2 * c) from pk_mul 2 c, nI_add], nadd1, ck_t (okn (by omega) (by decide)), ck_t (okn (by omega) (by decide)), ixn (by omega), ixn (by omega), hS.1 3 (by decide) (by decide), p1, p2, nadd1]
    refine ⟨fun A' hA' => ?_, fun hA' => ?_⟩
    · obtain ⟨S', e1, e2⟩ := hh1 A' hA'
      rw [e1, bd_s]
      exact ⟨S', rfl, e2⟩
    · rw [hh2 hA', bd_s]
      rfl
  have fin : ∀ S, i_X7_goDay_12 S (nI f) (nI n) (nI n) = some (.inr (.inl (S, nI n))) := fun S => by
    unfold i_X7_goDay_12
    rw [if_pos (by rw [nle (by omega) (by omega)]; omega)]
  unfold f_X7_goDay
  rw [← hS1]
  refine ⟨fun A hA => ?_, fun w A hw hA hN => ?_⟩
  · obtain ⟨t, ht, S, rfl, hS⟩ := iter_rel (it := fun q => i_X7_goDay_12 q.1 (nI f) (nI n) q.2) (fun c q => q.2 = nI c ∧ ∃ B, dsq D nw pa pb c = some B ∧ PM D M B q.1) (fun t => ∃ S, t = .inl (S, nI n) ∧ PM D M A S) n (by
      rintro c ⟨S, x⟩ hc ⟨rfl, B, hB, hPB⟩
      obtain ⟨B', hB'⟩ := dsq_pre (c := c + 1) (n - (c + 1)) (A := A) (by rw [show c + 1 + (n - (c + 1)) = n by omega]; exact hA)
      have hd : dst D (pa c) (pb c) B = some B' := by rw [dsq, hB] at hB'; exact hB'
      obtain ⟨S', e1, e2⟩ := (body c B S hc (dsq_ok g hrk c hB) hPB).1 B' hd
      exact ⟨(S', nI (c + 1)), e1, rfl, B', hB', e2⟩) (by
      rintro ⟨S, x⟩ ⟨rfl, B, hB, hPB⟩
      rw [hA] at hB
      cases hB
      exact ⟨_, fin S, S, rfl, hPB⟩) (S1, (0 : Int32)) ⟨rfl, _, rfl, start⟩ (by have := bigN; omega)
    rw [ht, bd_s, sm_i]
    exact ⟨S, rfl, hS⟩
  · obtain ⟨t, ht, S, rfl, hS⟩ := iter_rel (it := fun q => i_X7_goDay_12 q.1 (nI f) (nI n) q.2) (fun c q => q.2 = nI c ∧ ∃ B, dsq D nw pa pb c = some B ∧ PM D M B q.1) (fun t => ∃ S, t = .inr (nI w, S) ∧ PM D M A S) w (by
      rintro c ⟨S, x⟩ hc ⟨rfl, B, hB, hPB⟩
      obtain ⟨B', hB'⟩ := dsq_pre (c := c + 1) (w - (c + 1)) (A := A) (by rw [show c + 1 + (w - (c + 1)) = w by omega]; exact hA)
      have hd : dst D (pa c) (pb c) B = some B' := by rw [dsq, hB] at hB'; exact hB'
      obtain ⟨S', e1, e2⟩ := (body c B S (by omega) (dsq_ok g hrk c hB) hPB).1 B' hd
      exact ⟨(S', nI (c + 1)), e1, rfl, B', hB', e2⟩) (by
      rintro ⟨S, x⟩ ⟨rfl, B, hB, hPB⟩
      rw [hA] at hB
      cases hB
      have hd : dst D (pa w) (pb w) A = none := by rw [dsq, hA] at hN; exact hN
      exact ⟨_, (body w A S hw (dsq_ok g hrk w hA) hPB).2 hd, S, rfl, hPB⟩) (S1, (0 : Int32)) ⟨rfl, _, rfl, start⟩ (by have := bigN; omega)
    rw [ht, bd_s, sm_o]
    exact ⟨S, rfl, hS⟩
/-! the pairs looked at: none refused, or the first that is -/
theorem X_pairs {X : St} {D : HD} (hx : XH X D) {k z i n : Nat} (hk : k < 4) (hz : z ≤ 60) (ez : X (8 + k) 2 = nI z) (hin : i + 2 * n ≤ z) :
    ((∀ c, c < n → rfv D (X (12 + k) (i + 2 * c)) (X (12 + k) (i + 2 * c + 1)) = 0) → f_X6_refusalOfPairs X (8 + k) (nI i) (nI n) = some 0) ∧ (∀ w, w < n → (∀ c, c < w → rfv D (X (12 + k) (i + 2 * c)) (X (12 + k) (i + 2 * c + 1)) = 0) → ¬ rfv D (X (12 + k) (i + 2 * w)) (X (12 + k) (i + 2 * w + 1)) = 0 → f_X6_refusalOfPairs X (8 + k) (nI i) (nI n) = some (rfv D (X (12 + k) (i + 2 * w)) (X (12 + k) (i + 2 * w + 1)))) := by
  have hsh : shX (8 + k) := ⟨by omega, by omega⟩
  have body : ∀ c, c < n → (rfv D (X (12 + k) (i + 2 * c)) (X (12 + k) (i + 2 * c + 1)) = 0 → i_X6_refusalOfPairs_3 X (8 + k) (nI i) (nI n) (nI c) = some (.inl (nI (c + 1)))) ∧ (¬ rfv D (X (12 + k) (i + 2 * c)) (X (12 + k) (i + 2 * c + 1)) = 0 → i_X6_refusalOfPairs_3 X (8 + k) (nI i) (nI n) (nI c) = some (.inr (.inr (rfv D (X (12 + k) (i + 2 * c)) (X (12 + k) (i + 2 * c + 1)))))) := by
    intro c hc
    unfold i_X6_refusalOfPairs_3
    rw [if_neg (by rw [nle (by omega) (by omega)]; omega), show nI i + (2 : Int32) * nI c = nI (i + 2 * c) by rw [show (2 : Int32) * nI c = nI (2 * c) from pk_mul 2 c, nI_add], X_at hsh ez hz (by omega), bd_s, nadd1, X_at hsh ez hz (by omega), bd_s, show 8 + k + 4 = 12 + k by omega, X_rp hx, bd_s, nadd1]
    exact ⟨fun e => if_pos e, fun e => if_neg e⟩
  unfold f_X6_refusalOfPairs
  rw [ck_t hsh]
  refine ⟨fun hall => ?_, fun w hw hlo hhi => ?_⟩
  · rw [iter_to (fun c => nI c) n (t := .inl (nI n)) (by rfl), bd_s, sm_i]
    · exact fun c hc => (body c hc).1 (hall c hc)
    · show i_X6_refusalOfPairs_3 X (8 + k) (nI i) (nI n) (nI n) = _
      unfold i_X6_refusalOfPairs_3
      rw [if_pos (by rw [nle (by omega) (by omega)]; omega)]
    · have := bigN; omega
  · rw [iter_to (fun c => nI c) w (t := .inr (rfv D (X (12 + k) (i + 2 * w)) (X (12 + k) (i + 2 * w + 1)))) (by rfl), bd_s, sm_o]
    · exact fun c hc => (body c (by omega)).1 (hlo c hc)
    · exact (body w hw).2 hhi
    · have := bigN; omega
theorem M_pairs {M : St} {D : HD} (hm : MH M D) {f n : Nat} (hf : f + 2 * n ≤ 240) (hn : n ≤ 20) (x5 : Int32) :
    ((∀ c, c < n → rfv D (M 3 (f + 2 * c)) (M 3 (f + 2 * c + 1)) = 0) → iter (fun q => i_X7_day_103 M (nI n) x5 (nI f) q) BIG (0 : Int32) = some (.inl (nI n))) ∧ (∀ w, w < n → (∀ c, c < w → rfv D (M 3 (f + 2 * c)) (M 3 (f + 2 * c + 1)) = 0) → ¬ rfv D (M 3 (f + 2 * w)) (M 3 (f + 2 * w + 1)) = 0 → iter (fun q => i_X7_day_103 M (nI n) x5 (nI f) q) BIG (0 : Int32) = some (.inr (rfv D (M 3 (f + 2 * w)) (M 3 (f + 2 * w + 1)), M))) := by
  have body : ∀ c, c < n → (rfv D (M 3 (f + 2 * c)) (M 3 (f + 2 * c + 1)) = 0 → i_X7_day_103 M (nI n) x5 (nI f) (nI c) = some (.inl (nI (c + 1)))) ∧ (¬ rfv D (M 3 (f + 2 * c)) (M 3 (f + 2 * c + 1)) = 0 → i_X7_day_103 M (nI n) x5 (nI f) (nI c) = some (.inr (.inr (rfv D (M 3 (f + 2 * c)) (M 3 (f + 2 * c + 1)), M)))) := by
    intro c hc
    unfold i_X7_day_103
    rw [if_neg (by rw [nle (by omega) (by omega)]; omega), show nI f + (2 : Int32) * nI c = nI (f + 2 * c) by rw [show (2 : Int32) * nI c = nI (2 * c) from pk_mul 2 c, nI_add], nadd1, ck_t (okn (by omega) (by decide)), ck_t (okn (by omega) (by decide)), ixn (by omega), ixn (by omega), M_rp hm, bd_s, nadd1]
    exact ⟨fun e => if_pos e, fun e => if_neg e⟩
  refine ⟨fun hall => ?_, fun w hw hlo hhi => ?_⟩
  · refine iter_to (fun c => nI c) n (by rfl) (fun c hc => (body c hc).1 (hall c hc)) ?_ (by have := bigN; omega)
    show i_X7_day_103 M (nI n) x5 (nI f) (nI n) = _
    unfold i_X7_day_103
    rw [if_pos (by rw [nle (by omega) (by omega)]; omega)]
  · exact iter_to (fun c => nI c) w (by rfl) (fun c hc => (body c (by omega)).1 (hlo c hc)) ((body w hw).2 hhi) (by have := bigN; omega)
theorem rfv_ok {D : HD} (g : GH D) {a b : Int32} (h : rfv D a b = 0) : a = nI (ix a) ∧ b = nI (ix b) ∧ pok D (ix a) (ix b) := by
  have h5 := g.2.1
  unfold rfv at h
  by_cases h1 : inB b 0 14 = true
  · rw [if_pos h1] at h
    obtain ⟨q, hq, rfl⟩ := inB_n (n := 14) (by decide) (show inB b 0 (nI 14) = true from h1)
    rw [ixn (j := q) (by omega)]
    by_cases h2 : nI q < 10
    · rw [if_pos h2] at h
      rw [n10, nlt (by omega) (by decide)] at h2
      by_cases h3 : hsB D a = true
      · obtain ⟨s, hs, rfl⟩ := hsB_t g h3
        rw [ixn (by omega)]
        exact ⟨rfl, rfl, hq, fun _ => hs, fun _ => by omega⟩
      · rw [if_neg h3] at h; exact absurd h (by decide)
    · rw [if_neg h2] at h
      rw [n10, nlt (by omega) (by decide)] at h2
      by_cases h3 : inB a 0 4 = true
      · obtain ⟨s, hs, rfl⟩ := inB_n (n := 4) (by decide) (show inB a 0 (nI 4) = true from h3)
        rw [ixn (by omega)]
        exact ⟨rfl, rfl, hq, fun _ => by omega, fun _ => hs⟩
      · rw [if_neg h3] at h; exact absurd h (by decide)
  · rw [if_neg h1] at h; exact absurd h (by decide)
theorem X_shadesIn {S : St} {D : HD} (h : XH S D) (g : GH D) {r : Nat → Nat} (hr : ∀ l, l < nl D → S 36 l = nI (r l)) : f_X1_shadesIn S 36 = some (sumI (fun l => nI (r l)) (nl D)) := by
  have h5 := g.1
  unfold f_X1_shadesIn
  rw [ck_t ⟨by decide, by decide⟩, iter_to (fun i => (sumI (fun l => nI (r l)) i, nI i)) (nl D) (t := (sumI (fun l => nI (r l)) (nl D), nI (nl D))) (by rfl), bd_s]
  · intro i hi
    show i_X1_shadesIn_4 S 36 (sumI (fun l => nI (r l)) i) (nI i) = _
    unfold i_X1_shadesIn_4
    rw [h.1, if_neg (by rw [nle (by omega) (by omega)]; omega), ck_t (show okx (nI i) (lenX 36) from okn (n := 5) (by omega) (by decide)), ixn (by omega), hr i hi, nadd1]
    rfl
  · show i_X1_shadesIn_4 S 36 (sumI (fun l => nI (r l)) (nl D)) (nI (nl D)) = _
    unfold i_X1_shadesIn_4
    rw [h.1, if_pos (by rw [nle (by omega) (by omega)]; omega)]
  · have := bigN; omega
theorem M_allShades {S : St} {D : HD} (h : MH S D) (g : GH D) {r : Nat → Nat} (hr : ∀ l, l < nl D → S 5 l = nI (r l)) : f_X7_allShades S = some (sumI (fun l => nI (r l)) (nl D)) := by
  have h5 := g.1
  unfold f_X7_allShades
  rw [iter_to (fun i => (sumI (fun l => nI (r l)) i, nI i)) (nl D) (t := (sumI (fun l => nI (r l)) (nl D), nI (nl D))) (by rfl), bd_s]
  · intro i hi
    show i_X7_allShades_4 S (sumI (fun l => nI (r l)) i) (nI i) = _
    unfold i_X7_allShades_4
    rw [h.1, if_neg (by rw [nle (by omega) (by omega)]; omega), ck_t (okn (by omega) (by decide)), ixn (by omega), hr i hi, nadd1]
    rfl
  · show i_X7_allShades_4 S (sumI (fun l => nI (r l)) (nl D)) (nI (nl D)) = _
    unfold i_X7_allShades_4
    rw [h.1, if_pos (by rw [nle (by omega) (by omega)]; omega)]
  · have := bigN; omega
theorem M_keep {S : St} {D : HD} (h : MH S D) (g : GH D) : f_X7_keep S = some (fill S 12 (nl D) (fun l => S 5 l)) := by
  have h5 := g.1
  unfold f_X7_keep
  rw [iter_to (fun i => (fill S 12 i (fun l => S 5 l), nI i)) (nl D) (t := (fill S 12 (nl D) (fun l => S 5 l), nI (nl D))) (by rw [fill_0]; rfl), bd_s]
  · intro i hi
    show i_X7_keep_2 (fill S 12 i (fun l => S 5 l)) (nI i) = _
    unfold i_X7_keep_2
    rw [fill_ne _ _ _ _ (show 0 ≠ 12 by decide), h.1, if_neg (by rw [nle (by omega) (by omega)]; omega), ck_t (okn (by omega) (by decide)), ck_t (okn (by omega) (by decide)), ixn (by omega), fill_up' (by rw [fill_ne _ _ _ _ (by decide)]), nadd1]
  · show i_X7_keep_2 (fill S 12 (nl D) (fun l => S 5 l)) (nI (nl D)) = _
    unfold i_X7_keep_2
    rw [fill_ne _ _ _ _ (show 0 ≠ 12 by decide), h.1, if_pos (by rw [nle (by omega) (by omega)]; omega)]
  · have := bigN; omega
theorem M_putBack {S : St} {D : HD} (h : MH S D) (g : GH D) : f_X7_putBack S = some (fill S 5 (nl D) (fun l => S 12 l)) := by
  have h5 := g.1
  unfold f_X7_putBack
  rw [iter_to (fun i => (fill S 5 i (fun l => S 12 l), nI i)) (nl D) (t := (fill S 5 (nl D) (fun l => S 12 l), nI (nl D))) (by rw [fill_0]; rfl), bd_s]
  · intro i hi
    show i_X7_putBack_2 (fill S 5 i (fun l => S 12 l)) (nI i) = _
    unfold i_X7_putBack_2
    rw [fill_ne _ _ _ _ (show 0 ≠ 5 by decide), h.1, if_neg (by rw [nle (by omega) (by omega)]; omega), ck_t (okn (by omega) (by decide)), ck_t (okn (by omega) (by decide)), ixn (by omega), fill_up' (by rw [fill_ne _ _ _ _ (by decide)]), nadd1]
  · show i_X7_putBack_2 (fill S 5 (nl D) (fun l => S 12 l)) (nI (nl D)) = _
    unfold i_X7_putBack_2
    rw [fill_ne _ _ _ _ (show 0 ≠ 5 by decide), h.1, if_pos (by rw [nle (by omega) (by omega)]; omega)]
  · have := bigN; omega

theorem tell_eq {X M S S2 : St} {D : HD} (hx : XH X D) (hm : MH M D) (g : GH D) {A : Rw} (hr : rok D A.1) (hX : PX D X A S) (hM : PM D M A S2) {a4 : Int32} (h14 : inB a4 0 4 = true ∨ inB a4 10 14 = true) : ∃ r, f_X6_ofDay S a4 = some (if a4 = 1 then -9 else r) ∧ f_X7_tellDay S2 a4 = some r := by
  have hn5 := g.1
  obtain ⟨x1, x2, x3, x4, x5⟩ := hX
  obtain ⟨m1, m2, m3, m4, m5⟩ := hM
  have hx' : XH S D := hx.fr (fun q hq => x1 q (by omega) (by omega))
  have hm' : MH S2 D := hm.fr (m2 5 (by decide) (by decide)) (m2 6 (by decide) (by decide)) (fun q hq => m1 q (by omega) (by omega))
  unfold f_X6_ofDay f_X7_tellDay
  rw [x3, x4, x5, m4, m5, if_pos (show (-9 : Int32) = -9 from rfl), X_dark hx' g (k := 36) ⟨by decide, by decide⟩ (by decide) x2 hr, M_dark hm' g m3 hr, X_shadesIn hx' g x2, M_allShades hm' g m3]
  simp only [bd_s]
  rcases h14 with h | h
  · obtain ⟨q, hq, rfl⟩ := inB_n (n := 4) (by decide) (show inB a4 0 (nI 4) = true from h)
    rw [if_pos (show nI q < (10 : Int32) by rw [n10, nlt (by omega) (by decide)]; omega)]
    match q, hq with
    | 0, _ => exact ⟨_, rfl, rfl⟩
    | 1, _ => exact ⟨_, rfl, rfl⟩
    | 2, _ => exact ⟨_, rfl, rfl⟩
    | 3, _ => exact ⟨_, rfl, rfl⟩
    | 4, _ => exact ⟨_, rfl, rfl⟩
    | q + 5, h => exact absurd h (by omega)
  · obtain ⟨h1, h2⟩ := inB_t h
    obtain ⟨q, hq, rfl⟩ : ∃ q : Nat, q ≤ 14 ∧ a4 = nI q := nI_of2 (M := 14) (n := 14) rfl (fun w => h1 (Int32.lt_trans w (by decide))) (by rw [Int32.le_iff_toInt_le]; rw [Int32.lt_iff_toInt_lt] at h2; omega)
    rw [n10, nlt (by omega) (by decide)] at h1
    have e : ∀ v : Nat, v < 10 → ¬ nI q = nI v := fun v hv => by rw [neq (by omega) (by omega)]; omega
    rw [if_neg (show ¬ nI q = (1 : Int32) from e 1 (by decide)), if_neg (show ¬ nI q = (0 : Int32) from e 0 (by decide)), if_neg (show ¬ nI q = (1 : Int32) from e 1 (by decide)), if_neg (show ¬ nI q = (2 : Int32) from e 2 (by decide)), if_neg (show ¬ nI q = (3 : Int32) from e 3 (by decide)), if_neg (show ¬ nI q = (4 : Int32) from e 4 (by decide)), if_neg (show ¬ nI q < (10 : Int32) by rw [n10, nlt (by omega) (by decide)]; omega), show nI q - (10 : Int32) = nI (q - 10) from pk_sub (b := 10) (by omega)]
    by_cases hl : q - 10 < nl D
    · rw [X_lamp1 hx' g hl, M_lamp1 hm' g hl, bd_s, bd_s, if_neg (show ¬ true = false by decide), if_neg (show ¬ true = false by decide), ck_t (okn (by omega) (by decide)), ck_t (okn (by omega) (by decide)), ixn (by omega), x2 _ hl, m3 _ hl]
      refine ⟨_, ?_, rfl⟩
      rw [if_neg (show ¬ nI q = (1 : Int32) from e 1 (by decide))]
    · have ho : nI (q - 10) < 0 ∨ (¬ nI (q - 10) < 0 ∧ nI (nl D) ≤ nI (q - 10)) := Or.inr ⟨nnot0 (by omega), by rw [nle (by omega) (by omega)]; omega⟩
      rw [X_lamp0 hx' ho, M_lamp0 hm' ho, bd_s, bd_s, if_pos rfl, if_pos rfl]
      refine ⟨_, ?_, rfl⟩
      rw [if_neg (show ¬ nI q = (1 : Int32) from e 1 (by decide))]
theorem ofDay_wrong {S : St} {w : Nat} (hw : w < 100) (h : S 5 1 = nI w) (a4 : Int32) : f_X6_ofDay S a4 = some (if a4 = 1 then nI w else -100 - nI w) := by
  unfold f_X6_ofDay
  rw [h]
  by_cases e : a4 = 1
  · rw [if_pos e, if_pos e]
  · rw [if_neg e, if_neg (nneg_ne (by omega) (by decide)), if_neg e]

theorem Inv.dayTo {D : HD} {nw : Nat → Nat} {nr : Nat} {rs rl : Nat → Nat} {Sx Sm Sx' Sm' : St} (h : InvD D nw nr rs rl Sx Sm) (ex : ∀ a, a ≠ 5 → a ≠ 36 → Sx' a = Sx a) (em : ∀ a, a ≠ 0 → a ≠ 5 → a ≠ 12 → Sm' a = Sm a) (em0 : ∀ b, b ≠ 20 → b ≠ 21 → Sm' 0 b = Sm 0 b) (e5 : ∀ l, l < nl D → Sm' 5 l = nI (nw l)) : InvD D nw nr rs rl Sx' Sm' := by
  obtain ⟨h1, h2, h3, h4, h5, h6, h7⟩ := h
  have x0 := ex 0 (by decide) (by decide)
  exact ⟨h1.fr (fun a ha => ex a (by omega) (by omega)) (em0 5 (by decide) (by decide)) (em0 6 (by decide) (by decide)) (fun a ha => em a (by omega) (by omega) (by omega)), fun l hl => ⟨by rw [ex 23 (by decide) (by decide)]; exact (h2 l hl).1, e5 l hl, (h2 l hl).2.2⟩, h3.fr (ex 27 (by decide) (by decide)) (em 9 (by decide) (by decide) (by decide)) (em0 7 (by decide) (by decide)), h4.fr (by rw [x0]) (by rw [x0]) (em0 0 (by decide) (by decide)) (em0 1 (by decide) (by decide)), h5.fr (by rw [ex 4 (by decide) (by decide)]) (fun a ha => ex a (by omega) (by omega)) (em0 24 (by decide) (by decide)) (fun a ha => em a (by omega) (by omega) (by omega)), h6.fr (fun a q1 q2 => ex a (by omega) (by omega)) (fun a ha => em a (by omega) (by omega) (by omega)), h7.fr (fun a ha => ex a (by omega) (by omega)) h1.1⟩
theorem day_core {D : HD} {nw : Nat → Nat} {nr : Nat} {rs rl : Nat → Nat} {X M : St} (hI : InvD D nw nr rs rl X M) {k z i n : Nat} (hk : k < 4) (hz : z ≤ 60) (ez : X (8 + k) 2 = nI z) (hin : i + 2 * n ≤ z) (hn : n ≤ 20) (e5 : ∀ q, q < z → X (12 + k) q = M 3 (60 * k + q)) {a4 : Int32} (h14 : inB a4 0 4 = true ∨ inB a4 10 14 = true) :
    ∃ (r : Int32) (X' M' : St), (bd (f_X6_refusalOfPairs X (8 + k) (nI i) (nI n)) fun r92 => if r92 = 0 then (bd (f_X0_goThrough X (8 + k) (nI i) (nI n)) fun r118 => bd (f_X6_ofDay r118 a4) fun r124 => some (r124, r118)) else (some (r92, X))) = some (r, X') ∧ (bd (iter (fun q => i_X7_day_103 M (nI n) a4 (nI (60 * k + i)) q) BIG ((0 : Int32))) fun u103 => sm u103 (fun q103 => bd (f_X7_keep M) fun r157 => bd (f_X7_goDay r157 (nI (60 * k + i)) (nI n)) fun r165 => bd (f_X7_tellDay r165.2 a4) fun r173 => bd (f_X7_putBack r165.2) fun r179 => if a4 = ((1 : Int32)) then (some (r165.1, r179)) else (if r165.1 = ((-9 : Int32)) then (some (r173, r179)) else (some (((-100 : Int32)) - r165.1, r179)))) fun w103 => some w103) = some (r, M') ∧ Inv X' M' := by
  obtain ⟨h1, h2, h3, h4, h5, h6, h7⟩ := id hI
  obtain ⟨g, hx, hm, hg⟩ := h1
  have hn5 := g.1
  have cell : ∀ q, q < z → M 3 (60 * k + i + q - i) = M 3 (60 * k + q) := fun q _ => by congr 1; omega
  have ce : ∀ c, c < n → M 3 (60 * k + i + 2 * c) = X (12 + k) (i + 2 * c) ∧ M 3 (60 * k + i + 2 * c + 1) = X (12 + k) (i + 2 * c + 1) := fun c hc => by
    rw [e5 (i + 2 * c) (by omega), e5 (i + 2 * c + 1) (by omega)]
    exact ⟨by congr 1; omega, by congr 1; omega⟩
  by_cases hall : ∀ c, c < n → rfv D (X (12 + k) (i + 2 * c)) (X (12 + k) (i + 2 * c + 1)) = 0
  · have eX := (X_pairs hx hk hz ez hin).1 hall
    have eM := (M_pairs hm (f := 60 * k + i) (n := n) (by omega) hn a4).1 (fun c hc => by rw [(ce c hc).1, (ce c hc).2]; exact hall c hc)
    rw [eX, eM, bd_s, bd_s, sm_i, if_pos rfl, M_keep hm g, bd_s]
    generalize hM1 : fill M 12 (nl D) (fun l => M 5 l) = M1
    have f1 : ∀ a, a ≠ 12 → M1 a = M a := fun a ha => by rw [← hM1]; exact fill_ne _ _ _ _ ha
    have f12 : ∀ l, l < nl D → M1 12 l = nI (nw l) := fun l hl => by rw [← hM1, fill_lo hl]; exact (h2 l hl).2.1
    have hm1 : MH M1 D := hm.fr (by rw [f1 0 (by decide)]) (by rw [f1 0 (by decide)]) (fun a ha => f1 a (by omega))
    have hrk : rok D nw := fun l hl => (h2 l hl).2.2
    let pa : Nat → Nat := fun c => ix (X (12 + k) (i + 2 * c))
    let pb : Nat → Nat := fun c => ix (X (12 + k) (i + 2 * c + 1))
    have hpX : ∀ c, c < n → X (12 + k) (i + 2 * c) = nI (pa c) ∧ X (12 + k) (i + 2 * c + 1) = nI (pb c) ∧ pok D (pa c) (pb c) := fun c hc => rfv_ok g (hall c hc)
    have hpM : ∀ c, c < n → M1 3 (60 * k + i + 2 * c) = nI (pa c) ∧ M1 3 (60 * k + i + 2 * c + 1) = nI (pb c) ∧ pok D (pa c) (pb c) := fun c hc => by
      rw [f1 3 (by decide), (ce c hc).1, (ce c hc).2]
      exact hpX c hc
    obtain ⟨gx1, gx2⟩ := X_go hx g (fun l hl => (h2 l hl).1) hrk hk hz ez hin hpX
    obtain ⟨gm1, gm2⟩ := M_go hm1 g (nw := nw) (fun l hl => by rw [f1 5 (by decide)]; exact (h2 l hl).2.1) hrk (f := 60 * k + i) (n := n) (by omega) hn hpM
    have back : ∀ (A : Rw) (S2 : St), PM D M1 A S2 → ∃ S3, f_X7_putBack S2 = some S3 ∧ ∀ X', (∀ a, a ≠ 5 → a ≠ 36 → X' a = X a) → Inv X' S3 := by
      intro A S2 hP
      obtain ⟨m1, m2, m3, m4, m5⟩ := hP
      have hm2 : MH S2 D := hm1.fr (m2 5 (by decide) (by decide)) (m2 6 (by decide) (by decide)) (fun q hq => m1 q (by omega) (by omega))
      refine ⟨_, M_putBack hm2 g, fun X' hX' => ⟨D, nw, nr, rs, rl, Inv.dayTo hI hX' (fun a q1 q2 q3 => ?_) (fun b q1 q2 => ?_) (fun l hl => ?_)⟩⟩
      · rw [fill_ne _ _ _ _ q2, m1 a q1 q2, f1 a q3]
      · rw [fill_ne _ _ _ _ (by decide), m2 b q1 q2, f1 0 (by decide)]
      · rw [fill_lo hl, m1 12 (by decide) (by decide)]
        exact f12 l hl
    cases hd : dsq D nw pa pb n with
    | some A =>
      obtain ⟨S, s1, s2⟩ := gx1 A hd
      obtain ⟨S2, t1, t2⟩ := gm1 A hd
      obtain ⟨r, u1, u2⟩ := tell_eq hx hm1 g (dsq_ok g hrk n hd) s2 t2 h14
      obtain ⟨S3, v1, v2⟩ := back A S2 t2
      rw [s1, t1, bd_s, bd_s, u1, bd_s]
      dsimp only
      rw [u2, bd_s, v1, bd_s]
      by_cases e : a4 = 1
      · rw [if_pos e, if_pos e]
        exact ⟨_, _, _, rfl, rfl, v2 S s2.1⟩
      · rw [if_neg e, if_neg e, if_pos rfl]
        exact ⟨_, _, _, rfl, rfl, v2 S s2.1⟩
    | none =>
      obtain ⟨w, hw, hw2⟩ := pk_least (fun c => c ≤ n ∧ dsq D nw pa pb c = none) ⟨n, Nat.le_refl n, hd⟩
      have hw0 : w ≠ 0 := fun q => by rw [q] at hw; cases hw.2
      obtain ⟨v, rfl⟩ : ∃ v, w = v + 1 := ⟨w - 1, by omega⟩
      cases hv : dsq D nw pa pb v with
      | none => exact absurd ⟨by omega, hv⟩ (hw2 v (by omega))
      | some A =>
        obtain ⟨S, s1, s2⟩ := gx2 v A (by omega) hv hw.2
        obtain ⟨S2, t1, t2⟩ := gm2 v A (by omega) hv hw.2
        obtain ⟨r, -, u2⟩ := tell_eq hx hm1 g (dsq_ok g hrk v hv) s2 t2 h14
        obtain ⟨S3, v1, v2⟩ := back A S2 t2
        have hfr : ∀ a, a ≠ 5 → a ≠ 36 → up S 5 1 (nI v) a = X a := fun a q1 q2 => by rw [up_ne _ _ _ _ q1]; exact s2.1 a q1 q2
        rw [s1, t1, bd_s, bd_s, ofDay_wrong (w := v) (by omega) (by rw [up_ap, if_pos rfl, if_pos rfl]), bd_s]
        dsimp only
        rw [u2, bd_s, v1, bd_s]
        by_cases e : a4 = 1
        · rw [if_pos e, if_pos e]
          exact ⟨_, _, _, rfl, rfl, v2 _ hfr⟩
        · rw [if_neg e, if_neg e, if_neg (nneg_ne (by omega) (by decide))]
          exact ⟨_, _, _, rfl, rfl, v2 _ hfr⟩
  · obtain ⟨w, ⟨hw1, hw2⟩, hw3⟩ := pk_least (fun c => c < n ∧ ¬ rfv D (X (12 + k) (i + 2 * c)) (X (12 + k) (i + 2 * c + 1)) = 0) (by
      simp only [Classical.not_forall] at hall
      obtain ⟨q, hq, hs⟩ := hall
      exact ⟨q, hq, hs⟩)
    have lo : ∀ c, c < w → rfv D (X (12 + k) (i + 2 * c)) (X (12 + k) (i + 2 * c + 1)) = 0 := fun c hc => Classical.byContradiction fun q => hw3 c hc ⟨by omega, q⟩
    have eX := (X_pairs hx hk hz ez hin).2 w hw1 lo hw2
    have eM := (M_pairs hm (f := 60 * k + i) (n := n) (by omega) hn a4).2 w hw1 (fun c hc => by rw [(ce c (by omega)).1, (ce c (by omega)).2]; exact lo c hc) (by rw [(ce w hw1).1, (ce w hw1).2]; exact hw2)
    rw [eX, eM, bd_s, bd_s, sm_o, if_neg hw2, (ce w hw1).1, (ce w hw1).2]
    exact ⟨_, _, _, rfl, rfl, D, nw, nr, rs, rl, hI⟩
theorem sim_day : Sim_day Inv := by
  intro Sx Sm a0 a1 a2 a3 a4 h0
  unfold f_X6_day f_X7_day
  have h := h0.fault 0
  generalize up Sx 0 8 (0 : Int32) = X at h ⊢
  generalize up Sm 0 0 (0 : Int32) = M at h ⊢
  obtain ⟨D, nw, nr, rs, rl, hI⟩ := id h
  obtain ⟨h1, h2, h3, h4, h5, h6, h7⟩ := id hI
  obtain ⟨g, hx, hm, hg⟩ := id h1
  have hn5 := g.1
  rcases nix2 a0 (n := 4) (by decide) with ha | ⟨k, hk, rfl⟩
  · rw [X_sheetAt0 ha, M_isSheet0 ha, bd_s, bd_s, op_0, if_neg (by decide)]
    exact ⟨_, X, M, rfl, rfl, h⟩
  have hsh : shX (8 + k) := ⟨by omega, by omega⟩
  rw [X_sheetAt1 hk, M_isSheet1 hk, bd_s, bd_s, op_1, if_pos rfl, ck_t hsh, X_lane, M_sort, bd_s, bd_s]
  by_cases hl : inB a1 0 2 = false
  · rw [if_pos hl, if_pos hl]
    exact ⟨_, X, M, rfl, rfl, h⟩
  rw [if_neg hl, if_neg hl, X_in, M_in, bd_s, bd_s]
  by_cases hn : inB a3 0 20 = false
  · rw [if_pos hn, if_pos hn]
    exact ⟨_, X, M, rfl, rfl, h⟩
  rw [if_neg hn, if_neg hn]
  obtain ⟨n, hn20, rfl⟩ := inB_n (n := 20) (by decide) (show inB a3 0 (nI 20) = true from (show inB a3 0 20 = true by simpa using hn))
  unfold f_X6_isAskedOfDay
  simp only [X_in, M_in, bd_s]
  have core : (inB a4 0 4 = true ∨ inB a4 10 14 = true) → ∃ (r : Int32) (X' M' : St), (bd (f_X4_faultOfCells X (8 + k) a1 a2 (((2 : Int32)) * nI n)) fun r56 => if r56 = 0 then (bd (f_X1_isMissing X) fun r77 => if r77 = false then (bd (f_X6_refusalOfPairs X (8 + k) a2 (nI n)) fun r92 => if r92 = 0 then (bd (f_X0_goThrough X (8 + k) a2 (nI n)) fun r118 => bd (f_X6_ofDay r118 a4) fun r124 => some (r124, r118)) else (some (r92, X))) else (some ((-3 : Int32), X))) else (bd (f_X6_faulted X r56) fun r69 => some (r69.1, r69.2))) = some (r, X') ∧ j_X7_day_57 M (nI k) a1 a2 (nI n) a4 = some (r, M') ∧ Inv X' M' := by
    intro h14
    unfold j_X7_day_57 f_X6_faulted f_X7_fails f_X1_isMissing
    rw [hx.1, hm.1, show (2 : Int32) * nI n = nI (2 * n) from pk_mul 2 n]
    rcases h6 k hk with ⟨e1, e2⟩ | ⟨z, la, hz, hla, e1, e2, e3, e4, e5⟩
    · rw [X_foc0 hsh e1, M_against0 hk e2]
      simp only [bd_s, if_neg (show ¬ (1 : Int32) = 0 by decide)]
      exact ⟨_, _, _, rfl, rfl, h.fault 1⟩
    rw [X_foc1 hsh e1 hz e3, M_against1 hk hz hla e4 e2, if_neg (nnot0 (a := 2 * n) (by omega))]
    by_cases el : nI la = a1
    · simp only [if_pos el]
      by_cases hc : hcB z a2 (nI (2 * n)) = true
      · simp only [if_pos hc, bd_s, if_true, if_pos (show (0 : Int32) = 0 from rfl)]
        obtain ⟨i, b, rfl, hb, hib⟩ := hcB_t hz hc
        have hbn : b = 2 * n := by
          have := congrArg Int32.toInt hb
          rw [nI_toInt (by omega), nI_toInt (by omega)] at this
          omega
        by_cases hl0 : nl D = 0
        · rw [hl0, if_pos (show nI 0 = (0 : Int32) from rfl), if_pos (show nI 0 = (0 : Int32) from rfl), bd_s, if_neg (by decide)]
          exact ⟨_, X, M, rfl, rfl, h⟩
        · rw [if_neg (show ¬ nI (nl D) = (0 : Int32) from nI_ne0 (by omega) (by omega)), if_neg (show ¬ nI (nl D) = (0 : Int32) from nI_ne0 (by omega) (by omega)), bd_s, if_pos rfl, show (60 : Int32) * nI k + nI i = nI (60 * k + i) by rw [show (60 : Int32) * nI k = nI (60 * k) from pk_mul 60 k, nI_add]]
          exact day_core hI hk hz e1 (by omega) hn20 e5 h14
      · simp only [if_neg hc, bd_s, if_neg (show ¬ (3 : Int32) = 0 by decide)]
        exact ⟨_, _, _, rfl, rfl, h.fault 3⟩
    · simp only [if_neg el, bd_s, if_neg (show ¬ (2 : Int32) = 0 by decide)]
      exact ⟨_, _, _, rfl, rfl, h.fault 2⟩
  by_cases w1 : inB a4 0 4 = true
  · simp only [if_pos w1, if_pos (show true = true from rfl), bd_s]
    exact core (Or.inl w1)
  · simp only [if_neg w1]
    by_cases w2 : inB a4 10 14 = true
    · simp only [if_pos w2, if_neg (show ¬ inB a4 10 14 = false by rw [w2]; decide), bd_s]
      exact core (Or.inr w2)
    · simp only [if_neg w2, if_pos (bf w2), bd_s, if_neg (show ¬ false = true by decide)]
      exact ⟨_, X, M, rfl, rfl, h⟩
