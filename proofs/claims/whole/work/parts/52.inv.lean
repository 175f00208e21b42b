/-! halls as numbers of mixed digits; what is come to from 0, in the order of a queue -/
def wt (D : HD) : Nat → Nat
  | 0 => 1
  | l + 1 => wt D l * sh D l
def tot (D : HD) : Nat := wt D (nl D)
def dg (D : HD) (n l : Nat) : Nat := n / wt D l % sh D l
/-- the number of a row of shades -/
def enc (D : HD) (r : Nat → Nat) : Nat → Nat
  | 0 => 0
  | l + 1 => enc D r l + r l * wt D l
/-- a number behind a switch -/
def mvn (D : HD) (s n : Nat) : Nat := enc D (fun l => (dg D n l + stp D s l) % sh D l) (nl D)
/-- a number ahead of a switch -/
def bkn (D : HD) (s n : Nat) : Nat := enc D (fun l => (dg D n l + sh D l - stp D s l) % sh D l) (nl D)
abbrev BS : Type := (Nat → Int32) × (Nat → Nat) × Nat
def vis (b : BS) (x : Nat) (d : Int32) : BS := if b.1 x = -9 then (fun y => if y = x then d else b.1 y, fun j => if j = b.2.2 then x else b.2.1 j, b.2.2 + 1) else b
def vst (D : HD) (set x : Nat) : Nat → BS → BS
  | 0, b => b
  | n + 1, b => if set.testBit n then vis (vst D set x n b) (mvn D n x) ((vst D set x n b).1 x + 1) else vst D set x n b
def bs0 : BS := (fun y => if y = 0 then 0 else -9, fun _ => 0, 1)
def bst (D : HD) (set : Nat) : Nat → BS
  | 0 => bs0
  | k + 1 => if k < (bst D set k).2.2 then vst D set ((bst D set k).2.1 k) (ns D) (bst D set k) else bst D set k
def BF (D : HD) (set : Nat) : BS := bst D set (tot D)
/-- the class's rows of what is come to are those of the hall, or are not used -/
def Cch (D : HD) (S : St) : Prop := S 3 6 = -1 ∨ ∃ set, set < 32 ∧ S 3 6 = nI set ∧ S 3 5 = nI (BF D set).2.2 ∧ (∀ x, x < tot D → S 31 x = (BF D set).1 x) ∧ (∀ l, l < nl D → S 29 l = nI (wt D l)) ∧ ∀ s, s < ns D → ∀ l, l < nl D → S (16 + s) l = nI (stp D s l)
/-! THE INVARIANT between the class's state and the reference's -/
def I1 (D : HD) (Sx Sm : St) : Prop := GH D ∧ XH Sx D ∧ MH Sm D ∧ (0 < nl D → 0 < ns D)
def I2 (D : HD) (nw : Nat → Nat) (Sx Sm : St) : Prop := ∀ l, l < nl D → Sx 23 l = nI (nw l) ∧ Sm 5 l = nI (nw l) ∧ nw l < sh D l
def I3 (D : HD) (Sx Sm : St) : Prop := (∀ s, s < ns D → Sx 27 s = Sm 9 s) ∧ Sm 0 7 = sumI (Sx 27) (ns D)
def I4 (Sx Sm : St) : Prop := Sx 0 8 = Sm 0 0 ∧ Sx 0 7 = Sm 0 1
def I5 (D : HD) (nr : Nat) (rs rl : Nat → Nat) (Sx Sm : St) : Prop := nr ≤ 8 ∧ Sx 4 0 = nI nr ∧ Sm 0 24 = nI nr ∧ ∀ q, q < nr → (Sx 33 q = nI (rs q) ∧ Sm 15 q = nI (rs q) ∧ rs q < ns D) ∧ (Sx 34 q = nI (rl q) ∧ Sm 16 q = nI (rl q) ∧ rl q < nl D) ∧ Sx 35 q = Sm 17 q
def ShR (Sx Sm : St) (k : Nat) : Prop := (Sx (8 + k) 2 = -1 ∧ Sm 1 k = -9) ∨ ∃ z la, z ≤ 60 ∧ la ≤ 2 ∧ Sx (8 + k) 2 = nI z ∧ Sm 2 k = nI z ∧ Sx (8 + k) 0 = nI la ∧ Sm 1 k = nI la ∧ ∀ i, i < z → Sx (12 + k) i = Sm 3 (60 * k + i)
def I6 (Sx Sm : St) : Prop := ∀ k, k < 4 → ShR Sx Sm k
def InvD (D : HD) (nw : Nat → Nat) (nr : Nat) (rs rl : Nat → Nat) (Sx Sm : St) : Prop := I1 D Sx Sm ∧ I2 D nw Sx Sm ∧ I3 D Sx Sm ∧ I4 Sx Sm ∧ I5 D nr rs rl Sx Sm ∧ I6 Sx Sm ∧ Cch D Sx
def Inv (Sx Sm : St) : Prop := ∃ D nw nr rs rl, InvD D nw nr rs rl Sx Sm
/-! what the parts of it do not look at -/
theorem XH.fr {D : HD} {Sx Sx' : St} (h : XH Sx D) (e : ∀ a, a = 1 ∨ a = 22 ∨ a = 24 ∨ a = 25 ∨ a = 26 → Sx' a = Sx a) : XH Sx' D := by
  obtain ⟨h1, h2, h3, h4⟩ := h
  refine ⟨by rw [e 1 (by simp)]; exact h1, by rw [e 1 (by simp)]; exact h2, fun l hl => by rw [e 22 (by simp)]; exact h3 l hl, fun s hs => ?_⟩
  rw [e 24 (by simp), e 25 (by simp), e 26 (by simp)]
  exact h4 s hs
theorem MH.fr {D : HD} {Sm Sm' : St} (h : MH Sm D) (e1 : Sm' 0 5 = Sm 0 5) (e2 : Sm' 0 6 = Sm 0 6) (e : ∀ a, a = 4 ∨ a = 6 ∨ a = 7 ∨ a = 8 → Sm' a = Sm a) : MH Sm' D := by
  obtain ⟨h1, h2, h3, h4⟩ := h
  refine ⟨by rw [e1]; exact h1, by rw [e2]; exact h2, fun l hl => by rw [e 4 (by simp)]; exact h3 l hl, fun s hs => ?_⟩
  rw [e 6 (by simp), e 7 (by simp), e 8 (by simp)]
  exact h4 s hs
theorem I1.fr {D : HD} {Sx Sm Sx' Sm' : St} (h : I1 D Sx Sm) (e : ∀ a, a = 1 ∨ a = 22 ∨ a = 24 ∨ a = 25 ∨ a = 26 → Sx' a = Sx a) (e1 : Sm' 0 5 = Sm 0 5) (e2 : Sm' 0 6 = Sm 0 6) (e3 : ∀ a, a = 4 ∨ a = 6 ∨ a = 7 ∨ a = 8 → Sm' a = Sm a) : I1 D Sx' Sm' := ⟨h.1, h.2.1.fr e, h.2.2.1.fr e1 e2 e3, h.2.2.2⟩
theorem I2.fr {D : HD} {nw : Nat → Nat} {Sx Sm Sx' Sm' : St} (h : I2 D nw Sx Sm) (e : Sx' 23 = Sx 23) (e1 : Sm' 5 = Sm 5) : I2 D nw Sx' Sm' := fun l hl => by rw [e, e1]; exact h l hl
theorem I3.fr {D : HD} {Sx Sm Sx' Sm' : St} (h : I3 D Sx Sm) (e : Sx' 27 = Sx 27) (e1 : Sm' 9 = Sm 9) (e2 : Sm' 0 7 = Sm 0 7) : I3 D Sx' Sm' := ⟨fun s hs => by rw [e, e1]; exact h.1 s hs, by rw [e, e2]; exact h.2⟩
theorem I4.fr {Sx Sm Sx' Sm' : St} (h : I4 Sx Sm) (e1 : Sx' 0 8 = Sx 0 8) (e2 : Sx' 0 7 = Sx 0 7) (e3 : Sm' 0 0 = Sm 0 0) (e4 : Sm' 0 1 = Sm 0 1) : I4 Sx' Sm' := ⟨by rw [e1, e3]; exact h.1, by rw [e2, e4]; exact h.2⟩
theorem I5.fr {D : HD} {nr : Nat} {rs rl : Nat → Nat} {Sx Sm Sx' Sm' : St} (h : I5 D nr rs rl Sx Sm) (e : Sx' 4 0 = Sx 4 0) (e1 : ∀ a, a = 33 ∨ a = 34 ∨ a = 35 → Sx' a = Sx a) (e2 : Sm' 0 24 = Sm 0 24) (e3 : ∀ a, a = 15 ∨ a = 16 ∨ a = 17 → Sm' a = Sm a) : I5 D nr rs rl Sx' Sm' := ⟨h.1, by rw [e]; exact h.2.1, by rw [e2]; exact h.2.2.1, fun q hq => by rw [e1 33 (by simp), e1 34 (by simp), e1 35 (by simp), e3 15 (by simp), e3 16 (by simp), e3 17 (by simp)]; exact h.2.2.2 q hq⟩
theorem I6.fr {Sx Sm Sx' Sm' : St} (h : I6 Sx Sm) (e : ∀ a, 8 ≤ a → a < 16 → Sx' a = Sx a) (e1 : ∀ a, a = 1 ∨ a = 2 ∨ a = 3 → Sm' a = Sm a) : I6 Sx' Sm' := fun k hk => by
  unfold ShR
  rw [e (8 + k) (by omega) (by omega), e (12 + k) (by omega) (by omega), e1 1 (by simp), e1 2 (by simp), e1 3 (by simp)]
  exact h k hk
theorem Cch.fr {D : HD} {S S' : St} (h : Cch D S) (e : ∀ a, a = 3 ∨ a = 29 ∨ a = 31 ∨ (16 ≤ a ∧ a < 21) → S' a = S a) (g : GH D) : Cch D S' := by
  unfold Cch
  have h5 := g.2.1
  rw [e 3 (by simp), e 29 (by simp), e 31 (by simp)]
  rcases h with h | ⟨set, h1, h2, h3, h4, h6, h7⟩
  · exact Or.inl h
  · exact Or.inr ⟨set, h1, h2, h3, h4, h6, fun s hs l hl => by rw [e (16 + s) (by right; right; right; omega)]; exact h7 s hs l hl⟩
theorem Inv0 : Inv SX0 SM0 := by
  refine ⟨(0, 0, fun _ => 0, fun _ => 0, fun _ => 0, fun _ => 0), fun _ => 0, 0, fun _ => 0, fun _ => 0, ⟨⟨by decide, by decide, fun l hl => absurd hl (Nat.not_lt_zero l), fun l hl => absurd hl (Nat.not_lt_zero l)⟩, ⟨rfl, rfl, fun l hl => absurd hl (Nat.not_lt_zero l), fun l hl => absurd hl (Nat.not_lt_zero l)⟩, ⟨rfl, rfl, fun l hl => absurd hl (Nat.not_lt_zero l), fun l hl => absurd hl (Nat.not_lt_zero l)⟩, fun h => absurd h (Nat.not_lt_zero 0)⟩, fun l hl => absurd hl (Nat.not_lt_zero l), ⟨fun l hl => absurd hl (Nat.not_lt_zero l), rfl⟩, ⟨rfl, rfl⟩, ⟨by decide, rfl, rfl, fun l hl => absurd hl (Nat.not_lt_zero l)⟩, ?_, Or.inl rfl⟩
  intro k hk
  left
  match k, hk with
  | 0, _ => exact ⟨rfl, rfl⟩
  | 1, _ => exact ⟨rfl, rfl⟩
  | 2, _ => exact ⟨rfl, rfl⟩
  | 3, _ => exact ⟨rfl, rfl⟩
  | k + 4, h => exact absurd h (by omega)
/-- the fault of a call, told on both sides -/
theorem Inv.fault {Sx Sm : St} (h : Inv Sx Sm) (v : Int32) : Inv (up Sx 0 8 v) (up Sm 0 0 v) := by
  obtain ⟨D, nw, nr, rs, rl, h1, h2, h3, h4, h5, h6, h7⟩ := h
  have ex : ∀ a, a ≠ 0 → up Sx 0 8 v a = Sx a := fun a ha => up_ne _ _ _ _ ha
  have em : ∀ a, a ≠ 0 → up Sm 0 0 v a = Sm a := fun a ha => up_ne _ _ _ _ ha
  have em0 : ∀ b, b ≠ 0 → up Sm 0 0 v 0 b = Sm 0 b := fun b hb => by rw [up_ap, if_pos rfl, if_neg hb]
  refine ⟨D, nw, nr, rs, rl, h1.fr (fun a ha => ex a (by omega)) (em0 5 (by decide)) (em0 6 (by decide)) (fun a ha => em a (by omega)), h2.fr (ex 23 (by decide)) (em 5 (by decide)), h3.fr (ex 27 (by decide)) (em 9 (by decide)) (em0 7 (by decide)), ⟨by rw [up_ap, up_ap]; rfl, by rw [up_ap, up_ap]; exact h4.2⟩, h5.fr (by rw [ex 4 (by decide)]) (fun a ha => ex a (by omega)) (em0 24 (by decide)) (fun a ha => em a (by omega)), h6.fr (fun a h8 _ => ex a (by omega)) (fun a ha => em a (by omega)), h7.fr (fun a ha => ex a (by omega)) h1.1⟩
